def F_X6_init (S : pS) (a0 : Nat) : Option (pS) := (oPA (oNew S (.inl (.int, 61, .inl (fun _ => 0)))) a0 6 0 S.1).bind fun S1 => (oPA (oNew S1 (.inl (.int, 61, .inl (fun _ => 0)))) a0 6 1 S1.1).bind fun S3 => (oPA (oNew S3 (.inl (.int, 61, .inl (fun _ => 0)))) a0 6 2 S3.1).bind fun S5 => (oPI S5 a0 6 3 (0 : Int32)).bind fun S7 => (oPA (oNew S7 (.inl (.int, 61, .inl (fun _ => 0)))) a0 6 4 S7.1).bind fun S9 => (oPA (oNew S9 (.inl (.int, 61, .inl (fun _ => 0)))) a0 6 5 S9.1).bind fun S11 => (oPA (oNew S11 (.inl (.int, 61, .inl (fun _ => 0)))) a0 6 6 S11.1).bind fun S13 => (oPA (oNew S13 (.inl (.long, 61, .inr (.inl (fun _ => 0))))) a0 6 7 S13.1).bind fun S15 => (oGA S15 a0 6 2).bind fun x17 => (oSI S15 x17 .int (0 : Int32) (0 : Int32)).bind fun S19 => (oPI S19 a0 6 3 (1 : Int32)).bind fun S21 => (oGA S21 a0 6 4).bind fun x23 => (oSI S21 x23 .int (0 : Int32) (1 : Int32)).bind fun S25 => (oGA S25 a0 6 7).bind fun x27 => (oSJ S25 x27 .long (0 : Int32) (1 : Int64)).bind fun S29 => some S29
set_option maxRecDepth 100000 in
set_option maxHeartbeats 4000000 in
theorem C_X6_init {X : pX} {Q : pO → Nat → pF → Prop} (S : pS) (a0 : Nat) (r : pS) (hf : F_X6_init S a0 = some r) (hk : Q (.inl none) r.1 r.2) : gC X mX6_init [.ref a0] S.1 S.2 Q 7 427 := by
  refine gC_of (by decide) (Nat.le_of_ble_eq_true rfl) rfl ?_
  change gW _ _ _ [some (.ref a0)] _ _ _ _ _ _
  unfold F_X6_init at hf
  refine r_aload_n (pc := 0) dX6_init_0 rfl ?_
  refine r_objInit (pc := 1) dX6_init_1 kX6_3 k_obj.1 k_obj.2 ⟨by decide, Nat.le_of_ble_eq_true rfl⟩ ?_
  refine r_aload_n (pc := 4) dX6_init_4 rfl ?_
  refine r_bipush (pc := 5) (61 : Int32) dX6_init_5 (by decide) ?_
  refine r_newa (pc := 7) .int .int (61, .inl (fun _ => 0)) dX6_init_7 rfl (by decide) k_arr_int (fun _ => rfl) (fun _ => rfl) (by decide) (by decide) (by decide) (mc2 := 6) (ms2 := 366) (by decide) (by decide) ?_
  change gW _ _ _ _ _ (oNew S (.inl (.int, 61, .inl (fun _ => 0)))).1 (oNew S (.inl (.int, 61, .inl (fun _ => 0)))).2 _ _ _
  replace hf := obind hf
  obtain ⟨S1, e2, hf⟩ := hf
  refine q_putAF (pc := 9) dX6_init_9 pX6_9 (Or.inr ⟨_, rfl⟩) rfl e2 ?_
  refine r_aload_n (pc := 12) dX6_init_12 rfl ?_
  refine r_bipush (pc := 13) (61 : Int32) dX6_init_13 (by decide) ?_
  refine r_newa (pc := 15) .int .int (61, .inl (fun _ => 0)) dX6_init_15 rfl (by decide) k_arr_int (fun _ => rfl) (fun _ => rfl) (by decide) (by decide) (by decide) (mc2 := 5) (ms2 := 305) (by decide) (by decide) ?_
  change gW _ _ _ _ _ (oNew S1 (.inl (.int, 61, .inl (fun _ => 0)))).1 (oNew S1 (.inl (.int, 61, .inl (fun _ => 0)))).2 _ _ _
  replace hf := obind hf
  obtain ⟨S3, e4, hf⟩ := hf
  refine q_putAF (pc := 17) dX6_init_17 pX6_15 (Or.inr ⟨_, rfl⟩) rfl e4 ?_
  refine r_aload_n (pc := 20) dX6_init_20 rfl ?_
  refine r_bipush (pc := 21) (61 : Int32) dX6_init_21 (by decide) ?_
  refine r_newa (pc := 23) .int .int (61, .inl (fun _ => 0)) dX6_init_23 rfl (by decide) k_arr_int (fun _ => rfl) (fun _ => rfl) (by decide) (by decide) (by decide) (mc2 := 4) (ms2 := 244) (by decide) (by decide) ?_
  change gW _ _ _ _ _ (oNew S3 (.inl (.int, 61, .inl (fun _ => 0)))).1 (oNew S3 (.inl (.int, 61, .inl (fun _ => 0)))).2 _ _ _
  replace hf := obind hf
  obtain ⟨S5, e6, hf⟩ := hf
  refine q_putAF (pc := 25) dX6_init_25 pX6_18 (Or.inr ⟨_, rfl⟩) rfl e6 ?_
  refine r_aload_n (pc := 28) dX6_init_28 rfl ?_
  refine r_iconst (pc := 29) (0 : Int32) dX6_init_29 (by decide) ?_
  replace hf := obind hf
  obtain ⟨S7, e8, hf⟩ := hf
  refine q_putI (pc := 30) dX6_init_30 pX6_21 rfl e8 ?_
  refine r_aload_n (pc := 33) dX6_init_33 rfl ?_
  refine r_bipush (pc := 34) (61 : Int32) dX6_init_34 (by decide) ?_
  refine r_newa (pc := 36) .int .int (61, .inl (fun _ => 0)) dX6_init_36 rfl (by decide) k_arr_int (fun _ => rfl) (fun _ => rfl) (by decide) (by decide) (by decide) (mc2 := 3) (ms2 := 183) (by decide) (by decide) ?_
  change gW _ _ _ _ _ (oNew S7 (.inl (.int, 61, .inl (fun _ => 0)))).1 (oNew S7 (.inl (.int, 61, .inl (fun _ => 0)))).2 _ _ _
  replace hf := obind hf
  obtain ⟨S9, e10, hf⟩ := hf
  refine q_putAF (pc := 38) dX6_init_38 pX6_25 (Or.inr ⟨_, rfl⟩) rfl e10 ?_
  refine r_aload_n (pc := 41) dX6_init_41 rfl ?_
  refine r_bipush (pc := 42) (61 : Int32) dX6_init_42 (by decide) ?_
  refine r_newa (pc := 44) .int .int (61, .inl (fun _ => 0)) dX6_init_44 rfl (by decide) k_arr_int (fun _ => rfl) (fun _ => rfl) (by decide) (by decide) (by decide) (mc2 := 2) (ms2 := 122) (by decide) (by decide) ?_
  change gW _ _ _ _ _ (oNew S9 (.inl (.int, 61, .inl (fun _ => 0)))).1 (oNew S9 (.inl (.int, 61, .inl (fun _ => 0)))).2 _ _ _
  replace hf := obind hf
  obtain ⟨S11, e12, hf⟩ := hf
  refine q_putAF (pc := 46) dX6_init_46 pX6_28 (Or.inr ⟨_, rfl⟩) rfl e12 ?_
  refine r_aload_n (pc := 49) dX6_init_49 rfl ?_
  refine r_bipush (pc := 50) (61 : Int32) dX6_init_50 (by decide) ?_
  refine r_newa (pc := 52) .int .int (61, .inl (fun _ => 0)) dX6_init_52 rfl (by decide) k_arr_int (fun _ => rfl) (fun _ => rfl) (by decide) (by decide) (by decide) (mc2 := 1) (ms2 := 61) (by decide) (by decide) ?_
  change gW _ _ _ _ _ (oNew S11 (.inl (.int, 61, .inl (fun _ => 0)))).1 (oNew S11 (.inl (.int, 61, .inl (fun _ => 0)))).2 _ _ _
  replace hf := obind hf
  obtain ⟨S13, e14, hf⟩ := hf
  refine q_putAF (pc := 54) dX6_init_54 pX6_31 (Or.inr ⟨_, rfl⟩) rfl e14 ?_
  refine r_aload_n (pc := 57) dX6_init_57 rfl ?_
  refine r_bipush (pc := 58) (61 : Int32) dX6_init_58 (by decide) ?_
  refine r_newa (pc := 60) .long .long (61, .inr (.inl (fun _ => 0))) dX6_init_60 rfl (by decide) k_arr_long (fun _ => rfl) (fun _ => rfl) (by decide) (by decide) (by decide) (mc2 := 0) (ms2 := 0) (by decide) (by decide) ?_
  change gW _ _ _ _ _ (oNew S13 (.inl (.long, 61, .inr (.inl (fun _ => 0))))).1 (oNew S13 (.inl (.long, 61, .inr (.inl (fun _ => 0))))).2 _ _ _
  replace hf := obind hf
  obtain ⟨S15, e16, hf⟩ := hf
  refine q_putAF (pc := 62) dX6_init_62 pX6_34 (Or.inr ⟨_, rfl⟩) rfl e16 ?_
  refine r_aload_n (pc := 65) dX6_init_65 rfl ?_
  replace hf := obind hf
  obtain ⟨x17, e18, hf⟩ := hf
  refine q_getA (pc := 66) dX6_init_66 gX6_18 e18 ?_
  refine r_iconst (pc := 69) (0 : Int32) dX6_init_69 (by decide) ?_
  refine r_iconst (pc := 70) (0 : Int32) dX6_init_70 (by decide) ?_
  replace hf := obind hf
  obtain ⟨S19, e20, hf⟩ := hf
  refine q_iast (pc := 71) dX6_init_71 e20 ?_
  refine r_aload_n (pc := 72) dX6_init_72 rfl ?_
  refine r_iconst (pc := 73) (1 : Int32) dX6_init_73 (by decide) ?_
  replace hf := obind hf
  obtain ⟨S21, e22, hf⟩ := hf
  refine q_putI (pc := 74) dX6_init_74 pX6_21 rfl e22 ?_
  refine r_aload_n (pc := 77) dX6_init_77 rfl ?_
  replace hf := obind hf
  obtain ⟨x23, e24, hf⟩ := hf
  refine q_getA (pc := 78) dX6_init_78 gX6_25 e24 ?_
  refine r_iconst (pc := 81) (0 : Int32) dX6_init_81 (by decide) ?_
  refine r_iconst (pc := 82) (1 : Int32) dX6_init_82 (by decide) ?_
  replace hf := obind hf
  obtain ⟨S25, e26, hf⟩ := hf
  refine q_iast (pc := 83) dX6_init_83 e26 ?_
  refine r_aload_n (pc := 84) dX6_init_84 rfl ?_
  replace hf := obind hf
  obtain ⟨x27, e28, hf⟩ := hf
  refine q_getA (pc := 85) dX6_init_85 gX6_34 e28 ?_
  refine r_iconst (pc := 88) (0 : Int32) dX6_init_88 (by decide) ?_
  refine r_lconst (pc := 89) (1 : Int64) dX6_init_89 (by decide) ?_
  replace hf := obind hf
  obtain ⟨S29, e30, hf⟩ := hf
  refine q_last (pc := 90) dX6_init_90 e30 ?_
  refine r_return (pc := 91) dX6_init_91 rfl ?_
  cases hf
  exact hk
abbrev L_X6_countParents_2 (l0 : Nat) (l1 : Nat) : Int32 × pS → List (Option Value) := fun a => [some (.ref l0), some (.ref l1), some (.int a.1), none, none]
abbrev s_X6_countParents_2 (l0 : Nat) (l1 : Nat) : Int32 × pS → pS := fun a => a.2
abbrev K_X6_countParents_2 (X : pX) (Q : pO → Nat → pF → Prop) (mc ms : Nat) (l0 : Nat) (l1 : Nat) : pS → Prop := (fun b => gW X mX6_countParents 28 [some (.ref l0), some (.ref l1), none, none, none] [] b.1 b.2 Q mc ms)
def F_X6_countParents_2 (l0 : Nat) (l1 : Nat) : Int32 × pS → Option ((Int32 × pS) ⊕ (pS)) := fun a => if (61 : Int32) ≤ a.1 then (some (.inr a.2)) else ((oGA a.2 l0 6 0).bind fun x1 => (oSI a.2 x1 .int a.1 (0 : Int32)).bind fun S3 => (oGA S3 l0 6 1).bind fun x5 => (oSI S3 x5 .int a.1 (0 : Int32)).bind fun S7 => some (.inl (a.1 + (1 : Int32), S7)))
set_option maxRecDepth 100000 in
set_option maxHeartbeats 4000000 in
theorem W_X6_countParents_2 {X : pX} {Q : pO → Nat → pF → Prop} {mc ms : Nat} (l0 : Nat) (l1 : Nat) : ∀ (a : Int32 × pS) (r : (Int32 × pS) ⊕ (pS)), F_X6_countParents_2 l0 l1 a = some r → Sum.elim (fun a' => gW X mX6_countParents 2 (L_X6_countParents_2 l0 l1 a') [] (s_X6_countParents_2 l0 l1 a').1 (s_X6_countParents_2 l0 l1 a').2 Q mc ms) (K_X6_countParents_2 X Q mc ms l0 l1) r → gW X mX6_countParents 2 (L_X6_countParents_2 l0 l1 a) [] (s_X6_countParents_2 l0 l1 a).1 (s_X6_countParents_2 l0 l1 a).2 Q mc ms := by
  intro a r hf hk
  obtain ⟨l2, S⟩ := a
  unfold F_X6_countParents_2 at hf
  try dsimp only at hf
  change gW _ _ _ [some (.ref l0), some (.ref l1), some (.int l2), none, none] _ S.1 S.2 _ _ _
  refine r_iload_n (pc := 2) dX6_countParents_2 rfl ?_
  refine r_bipush (pc := 3) (61 : Int32) dX6_countParents_3 (by decide) ?_
  refine r_icmp_ge (pc := 5) 28 dX6_countParents_5 (by decide) (fun hc => ?_) (fun hc => ?_)
  · rw [if_pos hc] at hf
    cases hf
    exact gW.weak (by simp [gle]) hk
  · rw [if_neg hc] at hf
    refine r_aload_n (pc := 8) dX6_countParents_8 rfl ?_
    replace hf := obind hf
    obtain ⟨x1, e2, hf⟩ := hf
    refine q_getA (pc := 9) dX6_countParents_9 gX6_9 e2 ?_
    refine r_iload_n (pc := 12) dX6_countParents_12 rfl ?_
    refine r_iconst (pc := 13) (0 : Int32) dX6_countParents_13 (by decide) ?_
    replace hf := obind hf
    obtain ⟨S3, e4, hf⟩ := hf
    refine q_iast (pc := 14) dX6_countParents_14 e4 ?_
    refine r_aload_n (pc := 15) dX6_countParents_15 rfl ?_
    replace hf := obind hf
    obtain ⟨x5, e6, hf⟩ := hf
    refine q_getA (pc := 16) dX6_countParents_16 gX6_15 e6 ?_
    refine r_iload_n (pc := 19) dX6_countParents_19 rfl ?_
    refine r_iconst (pc := 20) (0 : Int32) dX6_countParents_20 (by decide) ?_
    replace hf := obind hf
    obtain ⟨S7, e8, hf⟩ := hf
    refine q_iast (pc := 21) dX6_countParents_21 e8 ?_
    refine r_iinc (pc := 22) dX6_countParents_22 rfl (by decide) ?_
    change gW _ _ _ [some (.ref l0), some (.ref l1), some (.int (l2 + (1 : Int32))), none, none] _ _ _ _ _ _
    refine r_goto (pc := 25) 2 dX6_countParents_25 (by decide) ?_
    cases hf
    exact gW.weak (by simp [gle]) hk
abbrev L_X6_countParents_30 (l0 : Nat) (l1 : Nat) : Int32 × pS → List (Option Value) := fun a => [some (.ref l0), some (.ref l1), some (.int a.1), none, none]
abbrev s_X6_countParents_30 (l0 : Nat) (l1 : Nat) : Int32 × pS → pS := fun a => a.2
abbrev K_X6_countParents_30 (X : pX) (Q : pO → Nat → pF → Prop) (mc ms : Nat) (l0 : Nat) (l1 : Nat) : pS → Prop := (fun b => gW X mX6_countParents 97 [some (.ref l0), some (.ref l1), none, none, none] [] b.1 b.2 Q mc ms)
abbrev L_X6_countParents_38 (l0 : Nat) (l1 : Nat) (l2 : Int32) : Int32 × pS → List (Option Value) := fun a => [some (.ref l0), some (.ref l1), some (.int l2), some (.int a.1), none]
abbrev s_X6_countParents_38 (l0 : Nat) (l1 : Nat) (l2 : Int32) : Int32 × pS → pS := fun a => a.2
abbrev K_X6_countParents_38 (X : pX) (Q : pO → Nat → pF → Prop) (mc ms : Nat) (l0 : Nat) (l1 : Nat) (l2 : Int32) : pS → Prop := (fun b => gW X mX6_countParents 91 [some (.ref l0), some (.ref l1), some (.int l2), none, none] [] b.1 b.2 Q mc ms)
def F_X6_countParents_38 (l0 : Nat) (l1 : Nat) (l2 : Int32) : Int32 × pS → Option ((Int32 × pS) ⊕ (pS)) := fun a => (F_X8_holds a.2 l1 l2).bind fun q11 => if q11 = 0 then (some (.inr a.2)) else ((F_X8_childCount a.2 l1 l2).bind fun q13 => if q13 ≤ a.1 then (some (.inr a.2)) else ((F_X8_childAt a.2 l1 l2 a.1).bind fun q15 => (oGA a.2 l0 6 0).bind fun x17 => (oAI a.2 x17 .int q15).bind fun x19 => (oSI a.2 x17 .int q15 (x19 + (1 : Int32))).bind fun S21 => (oGA S21 l0 6 1).bind fun x23 => (oAI S21 x23 .int q15).bind fun x25 => (oSI S21 x23 .int q15 (x25 + (1 : Int32))).bind fun S27 => some (.inl (a.1 + (1 : Int32), S27))))
set_option maxRecDepth 100000 in
set_option maxHeartbeats 4000000 in
theorem W_X6_countParents_38 {X : pX} {Q : pO → Nat → pF → Prop} {mc ms : Nat} (l0 : Nat) (l1 : Nat) (l2 : Int32) : ∀ (a : Int32 × pS) (r : (Int32 × pS) ⊕ (pS)), F_X6_countParents_38 l0 l1 l2 a = some r → Sum.elim (fun a' => gW X mX6_countParents 38 (L_X6_countParents_38 l0 l1 l2 a') [] (s_X6_countParents_38 l0 l1 l2 a').1 (s_X6_countParents_38 l0 l1 l2 a').2 Q mc ms) (K_X6_countParents_38 X Q mc ms l0 l1 l2) r → gW X mX6_countParents 38 (L_X6_countParents_38 l0 l1 l2 a) [] (s_X6_countParents_38 l0 l1 l2 a).1 (s_X6_countParents_38 l0 l1 l2 a).2 Q mc ms := by
  intro a r hf hk
  obtain ⟨l3, S⟩ := a
  unfold F_X6_countParents_38 at hf
  try dsimp only at hf
  change gW _ _ _ [some (.ref l0), some (.ref l1), some (.int l2), some (.int l3), none] _ S.1 S.2 _ _ _
  refine r_aload_n (pc := 38) dX6_countParents_38 rfl ?_
  refine r_iload_n (pc := 39) dX6_countParents_39 rfl ?_
  replace hf := obind hf
  obtain ⟨q11, e12, hf⟩ := hf
  refine q_callV (pc := 40) (v := some (.int q11)) (S' := S) mX8_holds 8 [.int l2] dX6_countParents_40 kX6_51 fX8_holds iX8_holds ⟨by decide, by decide⟩ rfl rfl rfl (Nat.le_of_ble_eq_true rfl) (og e12) (mc1 := 0) (ms1 := 0) (mc2 := mc) (ms2 := ms) (by omega) (by omega) (C_X8_holds S l1 l2 q11 e12 (qR_mk _ _)) ?_
  change gW _ _ _ _ (.int q11 :: _) _ _ _ _ _
  refine r_if_eq (pc := 43) 91 dX6_countParents_43 (by decide) (fun hc => ?_) (fun hc => ?_)
  · rw [if_pos hc] at hf
    cases hf
    exact gW.weak (by simp [gle]) hk
  · rw [if_neg hc] at hf
    refine r_iload_n (pc := 46) dX6_countParents_46 rfl ?_
    refine r_aload_n (pc := 47) dX6_countParents_47 rfl ?_
    refine r_iload_n (pc := 48) dX6_countParents_48 rfl ?_
    replace hf := obind hf
    obtain ⟨q13, e14, hf⟩ := hf
    refine q_callV (pc := 49) (v := some (.int q13)) (S' := S) mX8_childCount 8 [.int l2] dX6_countParents_49 kX6_57 fX8_childCount iX8_childCount ⟨by decide, by decide⟩ rfl rfl rfl (Nat.le_of_ble_eq_true rfl) (og e14) (mc1 := 0) (ms1 := 0) (mc2 := mc) (ms2 := ms) (by omega) (by omega) (C_X8_childCount S l1 l2 q13 e14 (qR_mk _ _)) ?_
    change gW _ _ _ _ (.int q13 :: _) _ _ _ _ _
    refine r_icmp_ge (pc := 52) 91 dX6_countParents_52 (by decide) (fun hc => ?_) (fun hc => ?_)
    · rw [if_pos hc] at hf
      cases hf
      exact gW.weak (by simp [gle]) hk
    · rw [if_neg hc] at hf
      refine r_aload_n (pc := 55) dX6_countParents_55 rfl ?_
      refine r_iload_n (pc := 56) dX6_countParents_56 rfl ?_
      refine r_iload_n (pc := 57) dX6_countParents_57 rfl ?_
      replace hf := obind hf
      obtain ⟨q15, e16, hf⟩ := hf
      refine q_callV (pc := 58) (v := some (.int q15)) (S' := S) mX8_childAt 8 [.int l2, .int l3] dX6_countParents_58 kX6_61 fX8_childAt iX8_childAt ⟨by decide, by decide⟩ rfl rfl rfl (Nat.le_of_ble_eq_true rfl) (og e16) (mc1 := 0) (ms1 := 0) (mc2 := mc) (ms2 := ms) (by omega) (by omega) (C_X8_childAt S l1 l2 l3 q15 e16 (qR_mk _ _)) ?_
      change gW _ _ _ _ (.int q15 :: _) _ _ _ _ _
      refine r_istore (pc := 61) dX6_countParents_61 (by decide) ?_
      change gW _ _ _ [some (.ref l0), some (.ref l1), some (.int l2), some (.int l3), some (.int q15)] _ _ _ _ _ _
      refine r_aload_n (pc := 63) dX6_countParents_63 rfl ?_
      replace hf := obind hf
      obtain ⟨x17, e18, hf⟩ := hf
      refine q_getA (pc := 64) dX6_countParents_64 gX6_9 e18 ?_
      refine r_iload (pc := 67) dX6_countParents_67 rfl ?_
      refine r_dup2 (pc := 69) dX6_countParents_69 rfl rfl ?_
      replace hf := obind hf
      obtain ⟨x19, e20, hf⟩ := hf
      refine q_iald (pc := 70) dX6_countParents_70 e20 ?_
      refine r_iconst (pc := 71) (1 : Int32) dX6_countParents_71 (by decide) ?_
      refine r_iadd (pc := 72) dX6_countParents_72 ?_
      replace hf := obind hf
      obtain ⟨S21, e22, hf⟩ := hf
      refine q_iast (pc := 73) dX6_countParents_73 e22 ?_
      refine r_aload_n (pc := 74) dX6_countParents_74 rfl ?_
      replace hf := obind hf
      obtain ⟨x23, e24, hf⟩ := hf
      refine q_getA (pc := 75) dX6_countParents_75 gX6_15 e24 ?_
      refine r_iload (pc := 78) dX6_countParents_78 rfl ?_
      refine r_dup2 (pc := 80) dX6_countParents_80 rfl rfl ?_
      replace hf := obind hf
      obtain ⟨x25, e26, hf⟩ := hf
      refine q_iald (pc := 81) dX6_countParents_81 e26 ?_
      refine r_iconst (pc := 82) (1 : Int32) dX6_countParents_82 (by decide) ?_
      refine r_iadd (pc := 83) dX6_countParents_83 ?_
      replace hf := obind hf
      obtain ⟨S27, e28, hf⟩ := hf
      refine q_iast (pc := 84) dX6_countParents_84 e28 ?_
      refine r_iinc (pc := 85) dX6_countParents_85 rfl (by decide) ?_
      change gW _ _ _ [some (.ref l0), some (.ref l1), some (.int l2), some (.int (l3 + (1 : Int32))), some (.int q15)] _ _ _ _ _ _
      refine r_goto (pc := 88) 38 dX6_countParents_88 (by decide) ?_
      cases hf
      exact gW.weak (by simp [gle]) hk
def F_X6_countParents_30 (l0 : Nat) (l1 : Nat) : Int32 × pS → Option ((Int32 × pS) ⊕ (pS)) := fun a => if (61 : Int32) ≤ a.1 then (some (.inr a.2)) else ((iter (F_X6_countParents_38 l0 l1 a.1) fu ((0 : Int32), a.2)).bind fun r29 => some (.inl (a.1 + (1 : Int32), r29)))
set_option maxRecDepth 100000 in
set_option maxHeartbeats 4000000 in
theorem W_X6_countParents_30 {X : pX} {Q : pO → Nat → pF → Prop} {mc ms : Nat} (l0 : Nat) (l1 : Nat) : ∀ (a : Int32 × pS) (r : (Int32 × pS) ⊕ (pS)), F_X6_countParents_30 l0 l1 a = some r → Sum.elim (fun a' => gW X mX6_countParents 30 (L_X6_countParents_30 l0 l1 a') [] (s_X6_countParents_30 l0 l1 a').1 (s_X6_countParents_30 l0 l1 a').2 Q mc ms) (K_X6_countParents_30 X Q mc ms l0 l1) r → gW X mX6_countParents 30 (L_X6_countParents_30 l0 l1 a) [] (s_X6_countParents_30 l0 l1 a).1 (s_X6_countParents_30 l0 l1 a).2 Q mc ms := by
  intro a r hf hk
  obtain ⟨l2, S⟩ := a
  unfold F_X6_countParents_30 at hf
  try dsimp only at hf
  change gW _ _ _ [some (.ref l0), some (.ref l1), some (.int l2), none, none] _ S.1 S.2 _ _ _
  refine r_iload_n (pc := 30) dX6_countParents_30 rfl ?_
  refine r_bipush (pc := 31) (61 : Int32) dX6_countParents_31 (by decide) ?_
  refine r_icmp_ge (pc := 33) 97 dX6_countParents_33 (by decide) (fun hc => ?_) (fun hc => ?_)
  · rw [if_pos hc] at hf
    cases hf
    exact gW.weak (by simp [gle]) hk
  · rw [if_neg hc] at hf
    refine r_iconst (pc := 36) (0 : Int32) dX6_countParents_36 (by decide) ?_
    refine r_istore_n (pc := 37) dX6_countParents_37 (by decide) ?_
    change gW _ _ _ [some (.ref l0), some (.ref l1), some (.int l2), some (.int (0 : Int32)), none] _ _ _ _ _ _
    replace hf := obind hf
    obtain ⟨r29, e30, hf⟩ := hf
    refine gW.weak (ls' := [some (.ref l0), some (.ref l1), some (.int l2), some (.int (0 : Int32)), none]) (by simp [gle]) ?_
    refine g_iter (L := L_X6_countParents_38 l0 l1 l2) (s := s_X6_countParents_38 l0 l1 l2) (K := K_X6_countParents_38 X Q _ _ l0 l1 l2) (W_X6_countParents_38 l0 l1 l2) fu ((0 : Int32), S) _ e30 ?_
    show gW _ _ 91 [some (.ref l0), some (.ref l1), some (.int l2), none, none] [] r29.1 r29.2 _ _ _
    refine r_iinc (pc := 91) dX6_countParents_91 rfl (by decide) ?_
    change gW _ _ _ [some (.ref l0), some (.ref l1), some (.int (l2 + (1 : Int32))), none, none] _ _ _ _ _ _
    refine r_goto (pc := 94) 30 dX6_countParents_94 (by decide) ?_
    cases hf
    exact gW.weak (by simp [gle]) hk
def F_X6_countParents (S : pS) (a0 : Nat) (a1 : Nat) : Option (pS) := (oF S a0 6).bind fun _ => (iter (F_X6_countParents_2 a0 a1) fu ((0 : Int32), S)).bind fun r9 => (iter (F_X6_countParents_30 a0 a1) fu ((0 : Int32), r9)).bind fun r31 => some r31
set_option maxRecDepth 100000 in
set_option maxHeartbeats 4000000 in
theorem C_X6_countParents {X : pX} {Q : pO → Nat → pF → Prop} (S : pS) (a0 : Nat) (a1 : Nat) (r : pS) (hf : F_X6_countParents S a0 a1 = some r) (hk : Q (.inl none) r.1 r.2) : gC X mX6_countParents [.ref a0, .ref a1] S.1 S.2 Q 0 0 := by
  refine gC_of (by decide) (Nat.le_of_ble_eq_true rfl) rfl ?_
  change gW _ _ _ [some (.ref a0), some (.ref a1), none, none, none] _ _ _ _ _ _
  unfold F_X6_countParents at hf
  obtain ⟨_, _, hf⟩ := obind hf
  refine r_iconst (pc := 0) (0 : Int32) dX6_countParents_0 (by decide) ?_
  refine r_istore_n (pc := 1) dX6_countParents_1 (by decide) ?_
  change gW _ _ _ [some (.ref a0), some (.ref a1), some (.int (0 : Int32)), none, none] _ _ _ _ _ _
  replace hf := obind hf
  obtain ⟨r9, e10, hf⟩ := hf
  refine gW.weak (ls' := [some (.ref a0), some (.ref a1), some (.int (0 : Int32)), none, none]) (by simp [gle]) ?_
  refine g_iter (L := L_X6_countParents_2 a0 a1) (s := s_X6_countParents_2 a0 a1) (K := K_X6_countParents_2 X Q _ _ a0 a1) (W_X6_countParents_2 a0 a1) fu ((0 : Int32), S) _ e10 ?_
  show gW _ _ 28 [some (.ref a0), some (.ref a1), none, none, none] [] r9.1 r9.2 _ _ _
  refine r_iconst (pc := 28) (0 : Int32) dX6_countParents_28 (by decide) ?_
  refine r_istore_n (pc := 29) dX6_countParents_29 (by decide) ?_
  change gW _ _ _ [some (.ref a0), some (.ref a1), some (.int (0 : Int32)), none, none] _ _ _ _ _ _
  replace hf := obind hf
  obtain ⟨r31, e32, hf⟩ := hf
  refine gW.weak (ls' := [some (.ref a0), some (.ref a1), some (.int (0 : Int32)), none, none]) (by simp [gle]) ?_
  refine g_iter (L := L_X6_countParents_30 a0 a1) (s := s_X6_countParents_30 a0 a1) (K := K_X6_countParents_30 X Q _ _ a0 a1) (W_X6_countParents_30 a0 a1) fu ((0 : Int32), r9) _ e32 ?_
  show gW _ _ 97 [some (.ref a0), some (.ref a1), none, none, none] [] r31.1 r31.2 _ _ _
  refine r_return (pc := 97) dX6_countParents_97 rfl ?_
  cases hf
  exact hk
def F_X6_putInOrder (S : pS) (a0 : Nat) (a1 : Int32) : Option (pS) := (oF S a0 6).bind fun _ => (oGI S a0 6 3).bind fun x1 => if (61 : Int32) ≤ x1 then (some S) else ((oGA S a0 6 2).bind fun x3 => (oGI S a0 6 3).bind fun x5 => (oSI S x3 .int x5 a1).bind fun S7 => (oGI S7 a0 6 3).bind fun x9 => (oPI S7 a0 6 3 (x9 + (1 : Int32))).bind fun S11 => some S11)
set_option maxRecDepth 100000 in
set_option maxHeartbeats 4000000 in
theorem C_X6_putInOrder {X : pX} {Q : pO → Nat → pF → Prop} (S : pS) (a0 : Nat) (a1 : Int32) (r : pS) (hf : F_X6_putInOrder S a0 a1 = some r) (hk : Q (.inl none) r.1 r.2) : gC X mX6_putInOrder [.ref a0, .int a1] S.1 S.2 Q 0 0 := by
  refine gC_of (by decide) (Nat.le_of_ble_eq_true rfl) rfl ?_
  change gW _ _ _ [some (.ref a0), some (.int a1)] _ _ _ _ _ _
  unfold F_X6_putInOrder at hf
  obtain ⟨_, _, hf⟩ := obind hf
  refine r_aload_n (pc := 0) dX6_putInOrder_0 rfl ?_
  replace hf := obind hf
  obtain ⟨x1, e2, hf⟩ := hf
  refine q_getI (pc := 1) dX6_putInOrder_1 gX6_21 e2 ?_
  refine r_bipush (pc := 4) (61 : Int32) dX6_putInOrder_4 (by decide) ?_
  refine r_icmp_ge (pc := 6) 29 dX6_putInOrder_6 (by decide) (fun hc => ?_) (fun hc => ?_)
  · rw [if_pos hc] at hf
    refine r_return (pc := 29) dX6_putInOrder_29 rfl ?_
    cases hf
    exact hk
  · rw [if_neg hc] at hf
    refine r_aload_n (pc := 9) dX6_putInOrder_9 rfl ?_
    replace hf := obind hf
    obtain ⟨x3, e4, hf⟩ := hf
    refine q_getA (pc := 10) dX6_putInOrder_10 gX6_18 e4 ?_
    refine r_aload_n (pc := 13) dX6_putInOrder_13 rfl ?_
    replace hf := obind hf
    obtain ⟨x5, e6, hf⟩ := hf
    refine q_getI (pc := 14) dX6_putInOrder_14 gX6_21 e6 ?_
    refine r_iload_n (pc := 17) dX6_putInOrder_17 rfl ?_
    replace hf := obind hf
    obtain ⟨S7, e8, hf⟩ := hf
    refine q_iast (pc := 18) dX6_putInOrder_18 e8 ?_
    refine r_aload_n (pc := 19) dX6_putInOrder_19 rfl ?_
    refine r_dup (pc := 20) dX6_putInOrder_20 rfl ?_
    replace hf := obind hf
    obtain ⟨x9, e10, hf⟩ := hf
    refine q_getI (pc := 21) dX6_putInOrder_21 gX6_21 e10 ?_
    refine r_iconst (pc := 24) (1 : Int32) dX6_putInOrder_24 (by decide) ?_
    refine r_iadd (pc := 25) dX6_putInOrder_25 ?_
    replace hf := obind hf
    obtain ⟨S11, e12, hf⟩ := hf
    refine q_putI (pc := 26) dX6_putInOrder_26 pX6_21 rfl e12 ?_
    refine r_return (pc := 29) dX6_putInOrder_29 rfl ?_
    cases hf
    exact hk
abbrev L_X6_orderItems_7 (l0 : Nat) (l1 : Nat) : Int32 × pS → List (Option Value) := fun a => [some (.ref l0), some (.ref l1), some (.int a.1), none, none, none]
abbrev s_X6_orderItems_7 (l0 : Nat) (l1 : Nat) : Int32 × pS → pS := fun a => a.2
abbrev K_X6_orderItems_7 (X : pX) (Q : pO → Nat → pF → Prop) (mc ms : Nat) (l0 : Nat) (l1 : Nat) : pS → Prop := (fun b => gW X mX6_orderItems 41 [some (.ref l0), some (.ref l1), none, none, none, none] [] b.1 b.2 Q mc ms)
def F_X6_orderItems_7 (l0 : Nat) (l1 : Nat) : Int32 × pS → Option ((Int32 × pS) ⊕ (pS)) := fun a => if (61 : Int32) ≤ a.1 then (some (.inr a.2)) else ((F_X8_holds a.2 l1 a.1).bind fun q3 => if q3 = 0 then (some (.inl (a.1 + (1 : Int32), a.2))) else ((oGA a.2 l0 6 0).bind fun x5 => (oAI a.2 x5 .int a.1).bind fun x7 => if ¬ x7 = 0 then (some (.inl (a.1 + (1 : Int32), a.2))) else ((F_X6_putInOrder a.2 l0 a.1).bind fun q9 => some (.inl (a.1 + (1 : Int32), q9)))))
set_option maxRecDepth 100000 in
set_option maxHeartbeats 4000000 in
theorem W_X6_orderItems_7 {X : pX} {Q : pO → Nat → pF → Prop} {mc ms : Nat} (l0 : Nat) (l1 : Nat) : ∀ (a : Int32 × pS) (r : (Int32 × pS) ⊕ (pS)), F_X6_orderItems_7 l0 l1 a = some r → Sum.elim (fun a' => gW X mX6_orderItems 7 (L_X6_orderItems_7 l0 l1 a') [] (s_X6_orderItems_7 l0 l1 a').1 (s_X6_orderItems_7 l0 l1 a').2 Q mc ms) (K_X6_orderItems_7 X Q mc ms l0 l1) r → gW X mX6_orderItems 7 (L_X6_orderItems_7 l0 l1 a) [] (s_X6_orderItems_7 l0 l1 a).1 (s_X6_orderItems_7 l0 l1 a).2 Q mc ms := by
  intro a r hf hk
  obtain ⟨l2, S⟩ := a
  unfold F_X6_orderItems_7 at hf
  try dsimp only at hf
  change gW _ _ _ [some (.ref l0), some (.ref l1), some (.int l2), none, none, none] _ S.1 S.2 _ _ _
  refine r_iload_n (pc := 7) dX6_orderItems_7 rfl ?_
  refine r_bipush (pc := 8) (61 : Int32) dX6_orderItems_8 (by decide) ?_
  refine r_icmp_ge (pc := 10) 41 dX6_orderItems_10 (by decide) (fun hc => ?_) (fun hc => ?_)
  · rw [if_pos hc] at hf
    cases hf
    exact gW.weak (by simp [gle]) hk
  · rw [if_neg hc] at hf
    refine r_aload_n (pc := 13) dX6_orderItems_13 rfl ?_
    refine r_iload_n (pc := 14) dX6_orderItems_14 rfl ?_
    replace hf := obind hf
    obtain ⟨q3, e4, hf⟩ := hf
    refine q_callV (pc := 15) (v := some (.int q3)) (S' := S) mX8_holds 8 [.int l2] dX6_orderItems_15 kX6_51 fX8_holds iX8_holds ⟨by decide, by decide⟩ rfl rfl rfl (Nat.le_of_ble_eq_true rfl) (og e4) (mc1 := 0) (ms1 := 0) (mc2 := mc) (ms2 := ms) (by omega) (by omega) (C_X8_holds S l1 l2 q3 e4 (qR_mk _ _)) ?_
    change gW _ _ _ _ (.int q3 :: _) _ _ _ _ _
    refine r_if_eq (pc := 18) 35 dX6_orderItems_18 (by decide) (fun hc => ?_) (fun hc => ?_)
    · rw [if_pos hc] at hf
      refine r_iinc (pc := 35) dX6_orderItems_35 rfl (by decide) ?_
      change gW _ _ _ [some (.ref l0), some (.ref l1), some (.int (l2 + (1 : Int32))), none, none, none] _ _ _ _ _ _
      refine r_goto (pc := 38) 7 dX6_orderItems_38 (by decide) ?_
      cases hf
      exact gW.weak (by simp [gle]) hk
    · rw [if_neg hc] at hf
      refine r_aload_n (pc := 21) dX6_orderItems_21 rfl ?_
      replace hf := obind hf
      obtain ⟨x5, e6, hf⟩ := hf
      refine q_getA (pc := 22) dX6_orderItems_22 gX6_9 e6 ?_
      refine r_iload_n (pc := 25) dX6_orderItems_25 rfl ?_
      replace hf := obind hf
      obtain ⟨x7, e8, hf⟩ := hf
      refine q_iald (pc := 26) dX6_orderItems_26 e8 ?_
      refine r_if_ne (pc := 27) 35 dX6_orderItems_27 (by decide) (fun hc => ?_) (fun hc => ?_)
      · rw [if_pos hc] at hf
        refine r_iinc (pc := 35) dX6_orderItems_35 rfl (by decide) ?_
        change gW _ _ _ [some (.ref l0), some (.ref l1), some (.int (l2 + (1 : Int32))), none, none, none] _ _ _ _ _ _
        refine r_goto (pc := 38) 7 dX6_orderItems_38 (by decide) ?_
        cases hf
        exact gW.weak (by simp [gle]) hk
      · rw [if_neg hc] at hf
        refine r_aload_n (pc := 30) dX6_orderItems_30 rfl ?_
        refine r_iload_n (pc := 31) dX6_orderItems_31 rfl ?_
        replace hf := obind hf
        obtain ⟨q9, e10, hf⟩ := hf
        refine q_callV (pc := 32) (v := none) (S' := q9) mX6_putInOrder 6 [.int l2] dX6_orderItems_32 kX6_65 fX6_putInOrder iX6_putInOrder ⟨by decide, by decide⟩ rfl rfl rfl (Nat.le_of_ble_eq_true rfl) (og e10) (mc1 := 0) (ms1 := 0) (mc2 := mc) (ms2 := ms) (by omega) (by omega) (C_X6_putInOrder S l0 l2 q9 e10 (qR_mk _ _)) ?_
        refine r_iinc (pc := 35) dX6_orderItems_35 rfl (by decide) ?_
        change gW _ _ _ [some (.ref l0), some (.ref l1), some (.int (l2 + (1 : Int32))), none, none, none] _ _ _ _ _ _
        refine r_goto (pc := 38) 7 dX6_orderItems_38 (by decide) ?_
        cases hf
        exact gW.weak (by simp [gle]) hk
abbrev L_X6_orderItems_43 (l0 : Nat) (l1 : Nat) : Int32 × pS → List (Option Value) := fun a => [some (.ref l0), some (.ref l1), some (.int a.1), none, none, none]
abbrev s_X6_orderItems_43 (l0 : Nat) (l1 : Nat) : Int32 × pS → pS := fun a => a.2
abbrev K_X6_orderItems_43 (X : pX) (Q : pO → Nat → pF → Prop) (mc ms : Nat) (l0 : Nat) (l1 : Nat) : pS → Prop := (fun b => gW X mX6_orderItems 125 [some (.ref l0), some (.ref l1), none, none, none, none] [] b.1 b.2 Q mc ms)
abbrev L_X6_orderItems_67 (l0 : Nat) (l1 : Nat) (l2 : Int32) (l3 : Int32) : Int32 × pS → List (Option Value) := fun a => [some (.ref l0), some (.ref l1), some (.int l2), some (.int l3), some (.int a.1), none]
abbrev s_X6_orderItems_67 (l0 : Nat) (l1 : Nat) (l2 : Int32) (l3 : Int32) : Int32 × pS → pS := fun a => a.2
abbrev K_X6_orderItems_67 (X : pX) (Q : pO → Nat → pF → Prop) (mc ms : Nat) (l0 : Nat) (l1 : Nat) (l2 : Int32) (l3 : Int32) : pS → Prop := (fun b => gW X mX6_orderItems 119 [some (.ref l0), some (.ref l1), some (.int l2), some (.int l3), none, none] [] b.1 b.2 Q mc ms)
def F_X6_orderItems_67 (l0 : Nat) (l1 : Nat) (l2 : Int32) (l3 : Int32) : Int32 × pS → Option ((Int32 × pS) ⊕ (pS)) := fun a => (F_X8_childCount a.2 l1 l3).bind fun q19 => if q19 ≤ a.1 then (some (.inr a.2)) else ((F_X8_childAt a.2 l1 l3 a.1).bind fun q21 => (oGA a.2 l0 6 1).bind fun x23 => (oAI a.2 x23 .int q21).bind fun x25 => (oSI a.2 x23 .int q21 (x25 - (1 : Int32))).bind fun S27 => (oGA S27 l0 6 1).bind fun x29 => (oAI S27 x29 .int q21).bind fun x31 => if ¬ x31 = 0 then (some (.inl (a.1 + (1 : Int32), S27))) else ((F_X6_putInOrder S27 l0 q21).bind fun q33 => some (.inl (a.1 + (1 : Int32), q33))))
set_option maxRecDepth 100000 in
set_option maxHeartbeats 4000000 in
theorem W_X6_orderItems_67 {X : pX} {Q : pO → Nat → pF → Prop} {mc ms : Nat} (l0 : Nat) (l1 : Nat) (l2 : Int32) (l3 : Int32) : ∀ (a : Int32 × pS) (r : (Int32 × pS) ⊕ (pS)), F_X6_orderItems_67 l0 l1 l2 l3 a = some r → Sum.elim (fun a' => gW X mX6_orderItems 67 (L_X6_orderItems_67 l0 l1 l2 l3 a') [] (s_X6_orderItems_67 l0 l1 l2 l3 a').1 (s_X6_orderItems_67 l0 l1 l2 l3 a').2 Q mc ms) (K_X6_orderItems_67 X Q mc ms l0 l1 l2 l3) r → gW X mX6_orderItems 67 (L_X6_orderItems_67 l0 l1 l2 l3 a) [] (s_X6_orderItems_67 l0 l1 l2 l3 a).1 (s_X6_orderItems_67 l0 l1 l2 l3 a).2 Q mc ms := by
  intro a r hf hk
  obtain ⟨l4, S⟩ := a
  unfold F_X6_orderItems_67 at hf
  try dsimp only at hf
  change gW _ _ _ [some (.ref l0), some (.ref l1), some (.int l2), some (.int l3), some (.int l4), none] _ S.1 S.2 _ _ _
  refine r_iload (pc := 67) dX6_orderItems_67 rfl ?_
  refine r_aload_n (pc := 69) dX6_orderItems_69 rfl ?_
  refine r_iload_n (pc := 70) dX6_orderItems_70 rfl ?_
  replace hf := obind hf
  obtain ⟨q19, e20, hf⟩ := hf
  refine q_callV (pc := 71) (v := some (.int q19)) (S' := S) mX8_childCount 8 [.int l3] dX6_orderItems_71 kX6_57 fX8_childCount iX8_childCount ⟨by decide, by decide⟩ rfl rfl rfl (Nat.le_of_ble_eq_true rfl) (og e20) (mc1 := 0) (ms1 := 0) (mc2 := mc) (ms2 := ms) (by omega) (by omega) (C_X8_childCount S l1 l3 q19 e20 (qR_mk _ _)) ?_
  change gW _ _ _ _ (.int q19 :: _) _ _ _ _ _
  refine r_icmp_ge (pc := 74) 119 dX6_orderItems_74 (by decide) (fun hc => ?_) (fun hc => ?_)
  · rw [if_pos hc] at hf
    cases hf
    exact gW.weak (by simp [gle]) hk
  · rw [if_neg hc] at hf
    refine r_aload_n (pc := 77) dX6_orderItems_77 rfl ?_
    refine r_iload_n (pc := 78) dX6_orderItems_78 rfl ?_
    refine r_iload (pc := 79) dX6_orderItems_79 rfl ?_
    replace hf := obind hf
    obtain ⟨q21, e22, hf⟩ := hf
    refine q_callV (pc := 81) (v := some (.int q21)) (S' := S) mX8_childAt 8 [.int l3, .int l4] dX6_orderItems_81 kX6_61 fX8_childAt iX8_childAt ⟨by decide, by decide⟩ rfl rfl rfl (Nat.le_of_ble_eq_true rfl) (og e22) (mc1 := 0) (ms1 := 0) (mc2 := mc) (ms2 := ms) (by omega) (by omega) (C_X8_childAt S l1 l3 l4 q21 e22 (qR_mk _ _)) ?_
    change gW _ _ _ _ (.int q21 :: _) _ _ _ _ _
    refine r_istore (pc := 84) dX6_orderItems_84 (by decide) ?_
    change gW _ _ _ [some (.ref l0), some (.ref l1), some (.int l2), some (.int l3), some (.int l4), some (.int q21)] _ _ _ _ _ _
    refine r_aload_n (pc := 86) dX6_orderItems_86 rfl ?_
    replace hf := obind hf
    obtain ⟨x23, e24, hf⟩ := hf
    refine q_getA (pc := 87) dX6_orderItems_87 gX6_15 e24 ?_
    refine r_iload (pc := 90) dX6_orderItems_90 rfl ?_
    refine r_dup2 (pc := 92) dX6_orderItems_92 rfl rfl ?_
    replace hf := obind hf
    obtain ⟨x25, e26, hf⟩ := hf
    refine q_iald (pc := 93) dX6_orderItems_93 e26 ?_
    refine r_iconst (pc := 94) (1 : Int32) dX6_orderItems_94 (by decide) ?_
    refine r_isub (pc := 95) dX6_orderItems_95 ?_
    replace hf := obind hf
    obtain ⟨S27, e28, hf⟩ := hf
    refine q_iast (pc := 96) dX6_orderItems_96 e28 ?_
    refine r_aload_n (pc := 97) dX6_orderItems_97 rfl ?_
    replace hf := obind hf
    obtain ⟨x29, e30, hf⟩ := hf
    refine q_getA (pc := 98) dX6_orderItems_98 gX6_15 e30 ?_
    refine r_iload (pc := 101) dX6_orderItems_101 rfl ?_
    replace hf := obind hf
    obtain ⟨x31, e32, hf⟩ := hf
    refine q_iald (pc := 103) dX6_orderItems_103 e32 ?_
    refine r_if_ne (pc := 104) 113 dX6_orderItems_104 (by decide) (fun hc => ?_) (fun hc => ?_)
    · rw [if_pos hc] at hf
      refine r_iinc (pc := 113) dX6_orderItems_113 rfl (by decide) ?_
      change gW _ _ _ [some (.ref l0), some (.ref l1), some (.int l2), some (.int l3), some (.int (l4 + (1 : Int32))), some (.int q21)] _ _ _ _ _ _
      refine r_goto (pc := 116) 67 dX6_orderItems_116 (by decide) ?_
      cases hf
      exact gW.weak (by simp [gle]) hk
    · rw [if_neg hc] at hf
      refine r_aload_n (pc := 107) dX6_orderItems_107 rfl ?_
      refine r_iload (pc := 108) dX6_orderItems_108 rfl ?_
      replace hf := obind hf
      obtain ⟨q33, e34, hf⟩ := hf
      refine q_callV (pc := 110) (v := none) (S' := q33) mX6_putInOrder 6 [.int q21] dX6_orderItems_110 kX6_65 fX6_putInOrder iX6_putInOrder ⟨by decide, by decide⟩ rfl rfl rfl (Nat.le_of_ble_eq_true rfl) (og e34) (mc1 := 0) (ms1 := 0) (mc2 := mc) (ms2 := ms) (by omega) (by omega) (C_X6_putInOrder S27 l0 q21 q33 e34 (qR_mk _ _)) ?_
      refine r_iinc (pc := 113) dX6_orderItems_113 rfl (by decide) ?_
      change gW _ _ _ [some (.ref l0), some (.ref l1), some (.int l2), some (.int l3), some (.int (l4 + (1 : Int32))), some (.int q21)] _ _ _ _ _ _
      refine r_goto (pc := 116) 67 dX6_orderItems_116 (by decide) ?_
      cases hf
      exact gW.weak (by simp [gle]) hk
def F_X6_orderItems_43 (l0 : Nat) (l1 : Nat) : Int32 × pS → Option ((Int32 × pS) ⊕ (pS)) := fun a => (oGI a.2 l0 6 3).bind fun x13 => if x13 ≤ a.1 then (some (.inr a.2)) else (if (61 : Int32) ≤ a.1 then (some (.inr a.2)) else ((oGA a.2 l0 6 2).bind fun x15 => (oAI a.2 x15 .int a.1).bind fun x17 => (iter (F_X6_orderItems_67 l0 l1 a.1 x17) fu ((0 : Int32), a.2)).bind fun r35 => some (.inl (a.1 + (1 : Int32), r35))))
set_option maxRecDepth 100000 in
set_option maxHeartbeats 4000000 in
theorem W_X6_orderItems_43 {X : pX} {Q : pO → Nat → pF → Prop} {mc ms : Nat} (l0 : Nat) (l1 : Nat) : ∀ (a : Int32 × pS) (r : (Int32 × pS) ⊕ (pS)), F_X6_orderItems_43 l0 l1 a = some r → Sum.elim (fun a' => gW X mX6_orderItems 43 (L_X6_orderItems_43 l0 l1 a') [] (s_X6_orderItems_43 l0 l1 a').1 (s_X6_orderItems_43 l0 l1 a').2 Q mc ms) (K_X6_orderItems_43 X Q mc ms l0 l1) r → gW X mX6_orderItems 43 (L_X6_orderItems_43 l0 l1 a) [] (s_X6_orderItems_43 l0 l1 a).1 (s_X6_orderItems_43 l0 l1 a).2 Q mc ms := by
  intro a r hf hk
  obtain ⟨l2, S⟩ := a
  unfold F_X6_orderItems_43 at hf
  try dsimp only at hf
  change gW _ _ _ [some (.ref l0), some (.ref l1), some (.int l2), none, none, none] _ S.1 S.2 _ _ _
  refine r_iload_n (pc := 43) dX6_orderItems_43 rfl ?_
  refine r_aload_n (pc := 44) dX6_orderItems_44 rfl ?_
  replace hf := obind hf
  obtain ⟨x13, e14, hf⟩ := hf
  refine q_getI (pc := 45) dX6_orderItems_45 gX6_21 e14 ?_
  refine r_icmp_ge (pc := 48) 125 dX6_orderItems_48 (by decide) (fun hc => ?_) (fun hc => ?_)
  · rw [if_pos hc] at hf
    cases hf
    exact gW.weak (by simp [gle]) hk
  · rw [if_neg hc] at hf
    refine r_iload_n (pc := 51) dX6_orderItems_51 rfl ?_
    refine r_bipush (pc := 52) (61 : Int32) dX6_orderItems_52 (by decide) ?_
    refine r_icmp_ge (pc := 54) 125 dX6_orderItems_54 (by decide) (fun hc => ?_) (fun hc => ?_)
    · rw [if_pos hc] at hf
      cases hf
      exact gW.weak (by simp [gle]) hk
    · rw [if_neg hc] at hf
      refine r_aload_n (pc := 57) dX6_orderItems_57 rfl ?_
      replace hf := obind hf
      obtain ⟨x15, e16, hf⟩ := hf
      refine q_getA (pc := 58) dX6_orderItems_58 gX6_18 e16 ?_
      refine r_iload_n (pc := 61) dX6_orderItems_61 rfl ?_
      replace hf := obind hf
      obtain ⟨x17, e18, hf⟩ := hf
      refine q_iald (pc := 62) dX6_orderItems_62 e18 ?_
      refine r_istore_n (pc := 63) dX6_orderItems_63 (by decide) ?_
      change gW _ _ _ [some (.ref l0), some (.ref l1), some (.int l2), some (.int x17), none, none] _ _ _ _ _ _
      refine r_iconst (pc := 64) (0 : Int32) dX6_orderItems_64 (by decide) ?_
      refine r_istore (pc := 65) dX6_orderItems_65 (by decide) ?_
      change gW _ _ _ [some (.ref l0), some (.ref l1), some (.int l2), some (.int x17), some (.int (0 : Int32)), none] _ _ _ _ _ _
      replace hf := obind hf
      obtain ⟨r35, e36, hf⟩ := hf
      refine gW.weak (ls' := [some (.ref l0), some (.ref l1), some (.int l2), some (.int x17), some (.int (0 : Int32)), none]) (by simp [gle]) ?_
      refine g_iter (L := L_X6_orderItems_67 l0 l1 l2 x17) (s := s_X6_orderItems_67 l0 l1 l2 x17) (K := K_X6_orderItems_67 X Q _ _ l0 l1 l2 x17) (W_X6_orderItems_67 l0 l1 l2 x17) fu ((0 : Int32), S) _ e36 ?_
      show gW _ _ 119 [some (.ref l0), some (.ref l1), some (.int l2), some (.int x17), none, none] [] r35.1 r35.2 _ _ _
      refine r_iinc (pc := 119) dX6_orderItems_119 rfl (by decide) ?_
      change gW _ _ _ [some (.ref l0), some (.ref l1), some (.int (l2 + (1 : Int32))), some (.int x17), none, none] _ _ _ _ _ _
      refine r_goto (pc := 122) 43 dX6_orderItems_122 (by decide) ?_
      cases hf
      exact gW.weak (by simp [gle]) hk
def F_X6_orderItems (S : pS) (a0 : Nat) (a1 : Nat) : Option (pS) := (oF S a0 6).bind fun _ => (oPI S a0 6 3 (0 : Int32)).bind fun S1 => (iter (F_X6_orderItems_7 a0 a1) fu ((0 : Int32), S1)).bind fun r11 => (iter (F_X6_orderItems_43 a0 a1) fu ((0 : Int32), r11)).bind fun r37 => some r37
set_option maxRecDepth 100000 in
set_option maxHeartbeats 4000000 in
theorem C_X6_orderItems {X : pX} {Q : pO → Nat → pF → Prop} (S : pS) (a0 : Nat) (a1 : Nat) (r : pS) (hf : F_X6_orderItems S a0 a1 = some r) (hk : Q (.inl none) r.1 r.2) : gC X mX6_orderItems [.ref a0, .ref a1] S.1 S.2 Q 0 0 := by
  refine gC_of (by decide) (Nat.le_of_ble_eq_true rfl) rfl ?_
  change gW _ _ _ [some (.ref a0), some (.ref a1), none, none, none, none] _ _ _ _ _ _
  unfold F_X6_orderItems at hf
  obtain ⟨_, _, hf⟩ := obind hf
  refine r_aload_n (pc := 0) dX6_orderItems_0 rfl ?_
  refine r_iconst (pc := 1) (0 : Int32) dX6_orderItems_1 (by decide) ?_
  replace hf := obind hf
  obtain ⟨S1, e2, hf⟩ := hf
  refine q_putI (pc := 2) dX6_orderItems_2 pX6_21 rfl e2 ?_
  refine r_iconst (pc := 5) (0 : Int32) dX6_orderItems_5 (by decide) ?_
  refine r_istore_n (pc := 6) dX6_orderItems_6 (by decide) ?_
  change gW _ _ _ [some (.ref a0), some (.ref a1), some (.int (0 : Int32)), none, none, none] _ _ _ _ _ _
  replace hf := obind hf
  obtain ⟨r11, e12, hf⟩ := hf
  refine gW.weak (ls' := [some (.ref a0), some (.ref a1), some (.int (0 : Int32)), none, none, none]) (by simp [gle]) ?_
  refine g_iter (L := L_X6_orderItems_7 a0 a1) (s := s_X6_orderItems_7 a0 a1) (K := K_X6_orderItems_7 X Q _ _ a0 a1) (W_X6_orderItems_7 a0 a1) fu ((0 : Int32), S1) _ e12 ?_
  show gW _ _ 41 [some (.ref a0), some (.ref a1), none, none, none, none] [] r11.1 r11.2 _ _ _
  refine r_iconst (pc := 41) (0 : Int32) dX6_orderItems_41 (by decide) ?_
  refine r_istore_n (pc := 42) dX6_orderItems_42 (by decide) ?_
  change gW _ _ _ [some (.ref a0), some (.ref a1), some (.int (0 : Int32)), none, none, none] _ _ _ _ _ _
  replace hf := obind hf
  obtain ⟨r37, e38, hf⟩ := hf
  refine gW.weak (ls' := [some (.ref a0), some (.ref a1), some (.int (0 : Int32)), none, none, none]) (by simp [gle]) ?_
  refine g_iter (L := L_X6_orderItems_43 a0 a1) (s := s_X6_orderItems_43 a0 a1) (K := K_X6_orderItems_43 X Q _ _ a0 a1) (W_X6_orderItems_43 a0 a1) fu ((0 : Int32), r11) _ e38 ?_
  show gW _ _ 125 [some (.ref a0), some (.ref a1), none, none, none, none] [] r37.1 r37.2 _ _ _
  refine r_return (pc := 125) dX6_orderItems_125 rfl ?_
  cases hf
  exact hk
abbrev L_X6_measureDownwards_2 (l0 : Nat) (l1 : Nat) : Int32 × pS → List (Option Value) := fun a => [some (.ref l0), some (.ref l1), some (.int a.1), none, none, none]
abbrev s_X6_measureDownwards_2 (l0 : Nat) (l1 : Nat) : Int32 × pS → pS := fun a => a.2
abbrev K_X6_measureDownwards_2 (X : pX) (Q : pO → Nat → pF → Prop) (mc ms : Nat) (l0 : Nat) (l1 : Nat) : pS → Prop := (fun b => gW X mX6_measureDownwards 36 [some (.ref l0), some (.ref l1), none, none, none, none] [] b.1 b.2 Q mc ms)
def F_X6_measureDownwards_22 (l0 : Nat) (l1 : Nat) (S : pS) (l2 : Int32) (t0 : Nat) (t1 : Int32) (t2 : Int32) : Option ((Int32 × pS) ⊕ (pS)) := (oSI S t0 .int t1 t2).bind fun S3 => (oGA S3 l0 6 5).bind fun x5 => (oSI S3 x5 .int l2 (0 : Int32)).bind fun S7 => some (.inl (l2 + (1 : Int32), S7))
set_option maxRecDepth 100000 in
set_option maxHeartbeats 4000000 in
theorem W_X6_measureDownwards_22 {X : pX} {Q : pO → Nat → pF → Prop} {mc ms : Nat} (l0 : Nat) (l1 : Nat) (S : pS) (l2 : Int32) (t0 : Nat) (t1 : Int32) (t2 : Int32) (r : (Int32 × pS) ⊕ (pS)) (hf : F_X6_measureDownwards_22 l0 l1 S l2 t0 t1 t2 = some r) (hk : Sum.elim (fun a' => gW X mX6_measureDownwards 2 (L_X6_measureDownwards_2 l0 l1 a') [] (s_X6_measureDownwards_2 l0 l1 a').1 (s_X6_measureDownwards_2 l0 l1 a').2 Q mc ms) (K_X6_measureDownwards_2 X Q mc ms l0 l1) r) : gW X mX6_measureDownwards 22 [some (.ref l0), some (.ref l1), some (.int l2), none, none, none] [.int t2, .int t1, .ref t0] S.1 S.2 Q mc ms := by
  unfold F_X6_measureDownwards_22 at hf
  replace hf := obind hf
  obtain ⟨S3, e4, hf⟩ := hf
  refine q_iast (pc := 22) dX6_measureDownwards_22 e4 ?_
  refine r_aload_n (pc := 23) dX6_measureDownwards_23 rfl ?_
  replace hf := obind hf
  obtain ⟨x5, e6, hf⟩ := hf
  refine q_getA (pc := 24) dX6_measureDownwards_24 gX6_28 e6 ?_
  refine r_iload_n (pc := 27) dX6_measureDownwards_27 rfl ?_
  refine r_iconst (pc := 28) (0 : Int32) dX6_measureDownwards_28 (by decide) ?_
  replace hf := obind hf
  obtain ⟨S7, e8, hf⟩ := hf
  refine q_iast (pc := 29) dX6_measureDownwards_29 e8 ?_
  refine r_iinc (pc := 30) dX6_measureDownwards_30 rfl (by decide) ?_
  change gW _ _ _ [some (.ref l0), some (.ref l1), some (.int (l2 + (1 : Int32))), none, none, none] _ _ _ _ _ _
  refine r_goto (pc := 33) 2 dX6_measureDownwards_33 (by decide) ?_
  cases hf
  exact gW.weak (by simp [gle]) hk
def F_X6_measureDownwards_2 (l0 : Nat) (l1 : Nat) : Int32 × pS → Option ((Int32 × pS) ⊕ (pS)) := fun a => if (61 : Int32) ≤ a.1 then (some (.inr a.2)) else ((oGA a.2 l0 6 4).bind fun x1 => if ¬ a.1 = 0 then (F_X6_measureDownwards_22 l0 l1 a.2 a.1 x1 a.1 (0 : Int32)) else (F_X6_measureDownwards_22 l0 l1 a.2 a.1 x1 a.1 (1 : Int32)))
set_option maxRecDepth 100000 in
set_option maxHeartbeats 4000000 in
theorem W_X6_measureDownwards_2 {X : pX} {Q : pO → Nat → pF → Prop} {mc ms : Nat} (l0 : Nat) (l1 : Nat) : ∀ (a : Int32 × pS) (r : (Int32 × pS) ⊕ (pS)), F_X6_measureDownwards_2 l0 l1 a = some r → Sum.elim (fun a' => gW X mX6_measureDownwards 2 (L_X6_measureDownwards_2 l0 l1 a') [] (s_X6_measureDownwards_2 l0 l1 a').1 (s_X6_measureDownwards_2 l0 l1 a').2 Q mc ms) (K_X6_measureDownwards_2 X Q mc ms l0 l1) r → gW X mX6_measureDownwards 2 (L_X6_measureDownwards_2 l0 l1 a) [] (s_X6_measureDownwards_2 l0 l1 a).1 (s_X6_measureDownwards_2 l0 l1 a).2 Q mc ms := by
  intro a r hf hk
  obtain ⟨l2, S⟩ := a
  unfold F_X6_measureDownwards_2 at hf
  try dsimp only at hf
  change gW _ _ _ [some (.ref l0), some (.ref l1), some (.int l2), none, none, none] _ S.1 S.2 _ _ _
  refine r_iload_n (pc := 2) dX6_measureDownwards_2 rfl ?_
  refine r_bipush (pc := 3) (61 : Int32) dX6_measureDownwards_3 (by decide) ?_
  refine r_icmp_ge (pc := 5) 36 dX6_measureDownwards_5 (by decide) (fun hc => ?_) (fun hc => ?_)
  · rw [if_pos hc] at hf
    cases hf
    exact gW.weak (by simp [gle]) hk
  · rw [if_neg hc] at hf
    refine r_aload_n (pc := 8) dX6_measureDownwards_8 rfl ?_
    replace hf := obind hf
    obtain ⟨x1, e2, hf⟩ := hf
    refine q_getA (pc := 9) dX6_measureDownwards_9 gX6_25 e2 ?_
    refine r_iload_n (pc := 12) dX6_measureDownwards_12 rfl ?_
    refine r_iload_n (pc := 13) dX6_measureDownwards_13 rfl ?_
    refine r_if_ne (pc := 14) 21 dX6_measureDownwards_14 (by decide) (fun hc => ?_) (fun hc => ?_)
    · rw [if_pos hc] at hf
      refine r_iconst (pc := 21) (0 : Int32) dX6_measureDownwards_21 (by decide) ?_
      exact gW.weak (by simp [gle]) (W_X6_measureDownwards_22 l0 l1 S l2 x1 l2 (0 : Int32) r hf hk)
    · rw [if_neg hc] at hf
      refine r_iconst (pc := 17) (1 : Int32) dX6_measureDownwards_17 (by decide) ?_
      refine r_goto (pc := 18) 22 dX6_measureDownwards_18 (by decide) ?_
      exact gW.weak (by simp [gle]) (W_X6_measureDownwards_22 l0 l1 S l2 x1 l2 (1 : Int32) r hf hk)
abbrev L_X6_measureDownwards_38 (l0 : Nat) (l1 : Nat) : Int32 × pS → List (Option Value) := fun a => [some (.ref l0), some (.ref l1), some (.int a.1), none, none, none]
abbrev s_X6_measureDownwards_38 (l0 : Nat) (l1 : Nat) : Int32 × pS → pS := fun a => a.2
abbrev K_X6_measureDownwards_38 (X : pX) (Q : pO → Nat → pF → Prop) (mc ms : Nat) (l0 : Nat) (l1 : Nat) : pS → Prop := (fun b => gW X mX6_measureDownwards 128 [some (.ref l0), some (.ref l1), none, none, none, none] [] b.1 b.2 Q mc ms)
abbrev L_X6_measureDownwards_56 (l0 : Nat) (l1 : Nat) (l2 : Int32) (l3 : Int32) : Int32 × pS → List (Option Value) := fun a => [some (.ref l0), some (.ref l1), some (.int l2), some (.int l3), some (.int a.1), none]
abbrev s_X6_measureDownwards_56 (l0 : Nat) (l1 : Nat) (l2 : Int32) (l3 : Int32) : Int32 × pS → pS := fun a => a.2
abbrev K_X6_measureDownwards_56 (X : pX) (Q : pO → Nat → pF → Prop) (mc ms : Nat) (l0 : Nat) (l1 : Nat) (l2 : Int32) (l3 : Int32) : pS → Prop := (fun b => gW X mX6_measureDownwards 122 [some (.ref l0), some (.ref l1), some (.int l2), some (.int l3), none, none] [] b.1 b.2 Q mc ms)
def F_X6_measureDownwards_56 (l0 : Nat) (l1 : Nat) (l2 : Int32) (l3 : Int32) : Int32 × pS → Option ((Int32 × pS) ⊕ (pS)) := fun a => (F_X8_childCount a.2 l1 l3).bind fun q17 => if q17 ≤ a.1 then (some (.inr a.2)) else ((F_X8_childAt a.2 l1 l3 a.1).bind fun q19 => (oGA a.2 l0 6 4).bind fun x21 => (oAI a.2 x21 .int q19).bind fun x23 => (oGA a.2 l0 6 4).bind fun x25 => (oAI a.2 x25 .int l3).bind fun x27 => (oSI a.2 x21 .int q19 (x23 + x27)).bind fun S29 => (oGA S29 l0 6 5).bind fun x31 => (oGA S29 l0 6 5).bind fun x33 => (oAI S29 x33 .int q19).bind fun x35 => (oGA S29 l0 6 5).bind fun x37 => (oAI S29 x37 .int l3).bind fun x39 => (oSI S29 x31 .int q19 (if x35 < (x39 + (1 : Int32)) then (x39 + (1 : Int32)) else x35)).bind fun S41 => some (.inl (a.1 + (1 : Int32), S41)))
set_option maxRecDepth 100000 in
set_option maxHeartbeats 4000000 in
theorem W_X6_measureDownwards_56 {X : pX} {Q : pO → Nat → pF → Prop} {mc ms : Nat} (l0 : Nat) (l1 : Nat) (l2 : Int32) (l3 : Int32) : ∀ (a : Int32 × pS) (r : (Int32 × pS) ⊕ (pS)), F_X6_measureDownwards_56 l0 l1 l2 l3 a = some r → Sum.elim (fun a' => gW X mX6_measureDownwards 56 (L_X6_measureDownwards_56 l0 l1 l2 l3 a') [] (s_X6_measureDownwards_56 l0 l1 l2 l3 a').1 (s_X6_measureDownwards_56 l0 l1 l2 l3 a').2 Q mc ms) (K_X6_measureDownwards_56 X Q mc ms l0 l1 l2 l3) r → gW X mX6_measureDownwards 56 (L_X6_measureDownwards_56 l0 l1 l2 l3 a) [] (s_X6_measureDownwards_56 l0 l1 l2 l3 a).1 (s_X6_measureDownwards_56 l0 l1 l2 l3 a).2 Q mc ms := by
  intro a r hf hk
  obtain ⟨l4, S⟩ := a
  unfold F_X6_measureDownwards_56 at hf
  try dsimp only at hf
  change gW _ _ _ [some (.ref l0), some (.ref l1), some (.int l2), some (.int l3), some (.int l4), none] _ S.1 S.2 _ _ _
  refine r_iload (pc := 56) dX6_measureDownwards_56 rfl ?_
  refine r_aload_n (pc := 58) dX6_measureDownwards_58 rfl ?_
  refine r_iload_n (pc := 59) dX6_measureDownwards_59 rfl ?_
  replace hf := obind hf
  obtain ⟨q17, e18, hf⟩ := hf
  refine q_callV (pc := 60) (v := some (.int q17)) (S' := S) mX8_childCount 8 [.int l3] dX6_measureDownwards_60 kX6_57 fX8_childCount iX8_childCount ⟨by decide, by decide⟩ rfl rfl rfl (Nat.le_of_ble_eq_true rfl) (og e18) (mc1 := 0) (ms1 := 0) (mc2 := mc) (ms2 := ms) (by omega) (by omega) (C_X8_childCount S l1 l3 q17 e18 (qR_mk _ _)) ?_
  change gW _ _ _ _ (.int q17 :: _) _ _ _ _ _
  refine r_icmp_ge (pc := 63) 122 dX6_measureDownwards_63 (by decide) (fun hc => ?_) (fun hc => ?_)
  · rw [if_pos hc] at hf
    cases hf
    exact gW.weak (by simp [gle]) hk
  · rw [if_neg hc] at hf
    refine r_aload_n (pc := 66) dX6_measureDownwards_66 rfl ?_
    refine r_iload_n (pc := 67) dX6_measureDownwards_67 rfl ?_
    refine r_iload (pc := 68) dX6_measureDownwards_68 rfl ?_
    replace hf := obind hf
    obtain ⟨q19, e20, hf⟩ := hf
    refine q_callV (pc := 70) (v := some (.int q19)) (S' := S) mX8_childAt 8 [.int l3, .int l4] dX6_measureDownwards_70 kX6_61 fX8_childAt iX8_childAt ⟨by decide, by decide⟩ rfl rfl rfl (Nat.le_of_ble_eq_true rfl) (og e20) (mc1 := 0) (ms1 := 0) (mc2 := mc) (ms2 := ms) (by omega) (by omega) (C_X8_childAt S l1 l3 l4 q19 e20 (qR_mk _ _)) ?_
    change gW _ _ _ _ (.int q19 :: _) _ _ _ _ _
    refine r_istore (pc := 73) dX6_measureDownwards_73 (by decide) ?_
    change gW _ _ _ [some (.ref l0), some (.ref l1), some (.int l2), some (.int l3), some (.int l4), some (.int q19)] _ _ _ _ _ _
    refine r_aload_n (pc := 75) dX6_measureDownwards_75 rfl ?_
    replace hf := obind hf
    obtain ⟨x21, e22, hf⟩ := hf
    refine q_getA (pc := 76) dX6_measureDownwards_76 gX6_25 e22 ?_
    refine r_iload (pc := 79) dX6_measureDownwards_79 rfl ?_
    refine r_dup2 (pc := 81) dX6_measureDownwards_81 rfl rfl ?_
    replace hf := obind hf
    obtain ⟨x23, e24, hf⟩ := hf
    refine q_iald (pc := 82) dX6_measureDownwards_82 e24 ?_
    refine r_aload_n (pc := 83) dX6_measureDownwards_83 rfl ?_
    replace hf := obind hf
    obtain ⟨x25, e26, hf⟩ := hf
    refine q_getA (pc := 84) dX6_measureDownwards_84 gX6_25 e26 ?_
    refine r_iload_n (pc := 87) dX6_measureDownwards_87 rfl ?_
    replace hf := obind hf
    obtain ⟨x27, e28, hf⟩ := hf
    refine q_iald (pc := 88) dX6_measureDownwards_88 e28 ?_
    refine r_iadd (pc := 89) dX6_measureDownwards_89 ?_
    replace hf := obind hf
    obtain ⟨S29, e30, hf⟩ := hf
    refine q_iast (pc := 90) dX6_measureDownwards_90 e30 ?_
    refine r_aload_n (pc := 91) dX6_measureDownwards_91 rfl ?_
    replace hf := obind hf
    obtain ⟨x31, e32, hf⟩ := hf
    refine q_getA (pc := 92) dX6_measureDownwards_92 gX6_28 e32 ?_
    refine r_iload (pc := 95) dX6_measureDownwards_95 rfl ?_
    refine r_aload_n (pc := 97) dX6_measureDownwards_97 rfl ?_
    replace hf := obind hf
    obtain ⟨x33, e34, hf⟩ := hf
    refine q_getA (pc := 98) dX6_measureDownwards_98 gX6_28 e34 ?_
    refine r_iload (pc := 101) dX6_measureDownwards_101 rfl ?_
    replace hf := obind hf
    obtain ⟨x35, e36, hf⟩ := hf
    refine q_iald (pc := 103) dX6_measureDownwards_103 e36 ?_
    refine r_aload_n (pc := 104) dX6_measureDownwards_104 rfl ?_
    replace hf := obind hf
    obtain ⟨x37, e38, hf⟩ := hf
    refine q_getA (pc := 105) dX6_measureDownwards_105 gX6_28 e38 ?_
    refine r_iload_n (pc := 108) dX6_measureDownwards_108 rfl ?_
    replace hf := obind hf
    obtain ⟨x39, e40, hf⟩ := hf
    refine q_iald (pc := 109) dX6_measureDownwards_109 e40 ?_
    refine r_iconst (pc := 110) (1 : Int32) dX6_measureDownwards_110 (by decide) ?_
    refine r_iadd (pc := 111) dX6_measureDownwards_111 ?_
    refine r_max (pc := 112) dX6_measureDownwards_112 kX6_69 k_max.1 k_max.2.1 k_max.2.2 ⟨by decide, Nat.le_of_ble_eq_true rfl⟩ ?_
    replace hf := obind hf
    obtain ⟨S41, e42, hf⟩ := hf
    refine q_iast (pc := 115) dX6_measureDownwards_115 e42 ?_
    refine r_iinc (pc := 116) dX6_measureDownwards_116 rfl (by decide) ?_
    change gW _ _ _ [some (.ref l0), some (.ref l1), some (.int l2), some (.int l3), some (.int (l4 + (1 : Int32))), some (.int q19)] _ _ _ _ _ _
    refine r_goto (pc := 119) 56 dX6_measureDownwards_119 (by decide) ?_
    cases hf
    exact gW.weak (by simp [gle]) hk
def F_X6_measureDownwards_38 (l0 : Nat) (l1 : Nat) : Int32 × pS → Option ((Int32 × pS) ⊕ (pS)) := fun a => (oGI a.2 l0 6 3).bind fun x11 => if x11 ≤ a.1 then (some (.inr a.2)) else ((oGA a.2 l0 6 2).bind fun x13 => (oAI a.2 x13 .int a.1).bind fun x15 => (iter (F_X6_measureDownwards_56 l0 l1 a.1 x15) fu ((0 : Int32), a.2)).bind fun r43 => some (.inl (a.1 + (1 : Int32), r43)))
set_option maxRecDepth 100000 in
set_option maxHeartbeats 4000000 in
theorem W_X6_measureDownwards_38 {X : pX} {Q : pO → Nat → pF → Prop} {mc ms : Nat} (l0 : Nat) (l1 : Nat) : ∀ (a : Int32 × pS) (r : (Int32 × pS) ⊕ (pS)), F_X6_measureDownwards_38 l0 l1 a = some r → Sum.elim (fun a' => gW X mX6_measureDownwards 38 (L_X6_measureDownwards_38 l0 l1 a') [] (s_X6_measureDownwards_38 l0 l1 a').1 (s_X6_measureDownwards_38 l0 l1 a').2 Q mc ms) (K_X6_measureDownwards_38 X Q mc ms l0 l1) r → gW X mX6_measureDownwards 38 (L_X6_measureDownwards_38 l0 l1 a) [] (s_X6_measureDownwards_38 l0 l1 a).1 (s_X6_measureDownwards_38 l0 l1 a).2 Q mc ms := by
  intro a r hf hk
  obtain ⟨l2, S⟩ := a
  unfold F_X6_measureDownwards_38 at hf
  try dsimp only at hf
  change gW _ _ _ [some (.ref l0), some (.ref l1), some (.int l2), none, none, none] _ S.1 S.2 _ _ _
  refine r_iload_n (pc := 38) dX6_measureDownwards_38 rfl ?_
  refine r_aload_n (pc := 39) dX6_measureDownwards_39 rfl ?_
  replace hf := obind hf
  obtain ⟨x11, e12, hf⟩ := hf
  refine q_getI (pc := 40) dX6_measureDownwards_40 gX6_21 e12 ?_
  refine r_icmp_ge (pc := 43) 128 dX6_measureDownwards_43 (by decide) (fun hc => ?_) (fun hc => ?_)
  · rw [if_pos hc] at hf
    cases hf
    exact gW.weak (by simp [gle]) hk
  · rw [if_neg hc] at hf
    refine r_aload_n (pc := 46) dX6_measureDownwards_46 rfl ?_
    replace hf := obind hf
    obtain ⟨x13, e14, hf⟩ := hf
    refine q_getA (pc := 47) dX6_measureDownwards_47 gX6_18 e14 ?_
    refine r_iload_n (pc := 50) dX6_measureDownwards_50 rfl ?_
    replace hf := obind hf
    obtain ⟨x15, e16, hf⟩ := hf
    refine q_iald (pc := 51) dX6_measureDownwards_51 e16 ?_
    refine r_istore_n (pc := 52) dX6_measureDownwards_52 (by decide) ?_
    change gW _ _ _ [some (.ref l0), some (.ref l1), some (.int l2), some (.int x15), none, none] _ _ _ _ _ _
    refine r_iconst (pc := 53) (0 : Int32) dX6_measureDownwards_53 (by decide) ?_
    refine r_istore (pc := 54) dX6_measureDownwards_54 (by decide) ?_
    change gW _ _ _ [some (.ref l0), some (.ref l1), some (.int l2), some (.int x15), some (.int (0 : Int32)), none] _ _ _ _ _ _
    replace hf := obind hf
    obtain ⟨r43, e44, hf⟩ := hf
    refine gW.weak (ls' := [some (.ref l0), some (.ref l1), some (.int l2), some (.int x15), some (.int (0 : Int32)), none]) (by simp [gle]) ?_
    refine g_iter (L := L_X6_measureDownwards_56 l0 l1 l2 x15) (s := s_X6_measureDownwards_56 l0 l1 l2 x15) (K := K_X6_measureDownwards_56 X Q _ _ l0 l1 l2 x15) (W_X6_measureDownwards_56 l0 l1 l2 x15) fu ((0 : Int32), S) _ e44 ?_
    show gW _ _ 122 [some (.ref l0), some (.ref l1), some (.int l2), some (.int x15), none, none] [] r43.1 r43.2 _ _ _
    refine r_iinc (pc := 122) dX6_measureDownwards_122 rfl (by decide) ?_
    change gW _ _ _ [some (.ref l0), some (.ref l1), some (.int (l2 + (1 : Int32))), some (.int x15), none, none] _ _ _ _ _ _
    refine r_goto (pc := 125) 38 dX6_measureDownwards_125 (by decide) ?_
    cases hf
    exact gW.weak (by simp [gle]) hk
def F_X6_measureDownwards (S : pS) (a0 : Nat) (a1 : Nat) : Option (pS) := (oF S a0 6).bind fun _ => (iter (F_X6_measureDownwards_2 a0 a1) fu ((0 : Int32), S)).bind fun r9 => (iter (F_X6_measureDownwards_38 a0 a1) fu ((0 : Int32), r9)).bind fun r45 => some r45
set_option maxRecDepth 100000 in
set_option maxHeartbeats 4000000 in
theorem C_X6_measureDownwards {X : pX} {Q : pO → Nat → pF → Prop} (S : pS) (a0 : Nat) (a1 : Nat) (r : pS) (hf : F_X6_measureDownwards S a0 a1 = some r) (hk : Q (.inl none) r.1 r.2) : gC X mX6_measureDownwards [.ref a0, .ref a1] S.1 S.2 Q 0 0 := by
  refine gC_of (by decide) (Nat.le_of_ble_eq_true rfl) rfl ?_
  change gW _ _ _ [some (.ref a0), some (.ref a1), none, none, none, none] _ _ _ _ _ _
  unfold F_X6_measureDownwards at hf
  obtain ⟨_, _, hf⟩ := obind hf
  refine r_iconst (pc := 0) (0 : Int32) dX6_measureDownwards_0 (by decide) ?_
  refine r_istore_n (pc := 1) dX6_measureDownwards_1 (by decide) ?_
  change gW _ _ _ [some (.ref a0), some (.ref a1), some (.int (0 : Int32)), none, none, none] _ _ _ _ _ _
  replace hf := obind hf
  obtain ⟨r9, e10, hf⟩ := hf
  refine gW.weak (ls' := [some (.ref a0), some (.ref a1), some (.int (0 : Int32)), none, none, none]) (by simp [gle]) ?_
  refine g_iter (L := L_X6_measureDownwards_2 a0 a1) (s := s_X6_measureDownwards_2 a0 a1) (K := K_X6_measureDownwards_2 X Q _ _ a0 a1) (W_X6_measureDownwards_2 a0 a1) fu ((0 : Int32), S) _ e10 ?_
  show gW _ _ 36 [some (.ref a0), some (.ref a1), none, none, none, none] [] r9.1 r9.2 _ _ _
  refine r_iconst (pc := 36) (0 : Int32) dX6_measureDownwards_36 (by decide) ?_
  refine r_istore_n (pc := 37) dX6_measureDownwards_37 (by decide) ?_
  change gW _ _ _ [some (.ref a0), some (.ref a1), some (.int (0 : Int32)), none, none, none] _ _ _ _ _ _
  replace hf := obind hf
  obtain ⟨r45, e46, hf⟩ := hf
  refine gW.weak (ls' := [some (.ref a0), some (.ref a1), some (.int (0 : Int32)), none, none, none]) (by simp [gle]) ?_
  refine g_iter (L := L_X6_measureDownwards_38 a0 a1) (s := s_X6_measureDownwards_38 a0 a1) (K := K_X6_measureDownwards_38 X Q _ _ a0 a1) (W_X6_measureDownwards_38 a0 a1) fu ((0 : Int32), r9) _ e46 ?_
  show gW _ _ 128 [some (.ref a0), some (.ref a1), none, none, none, none] [] r45.1 r45.2 _ _ _
  refine r_return (pc := 128) dX6_measureDownwards_128 rfl ?_
  cases hf
  exact hk
abbrev L_X6_measureUpwards_7 (l0 : Nat) (l1 : Nat) : Int32 × pS → List (Option Value) := fun a => [some (.ref l0), some (.ref l1), some (.int a.1), none, none, none]
abbrev s_X6_measureUpwards_7 (l0 : Nat) (l1 : Nat) : Int32 × pS → pS := fun a => a.2
abbrev K_X6_measureUpwards_7 (X : pX) (Q : pO → Nat → pF → Prop) (mc ms : Nat) (l0 : Nat) (l1 : Nat) : pS → Prop := (fun b => gW X mX6_measureUpwards 102 [some (.ref l0), some (.ref l1), none, none, none, none] [] b.1 b.2 Q mc ms)
abbrev L_X6_measureUpwards_37 (l0 : Nat) (l1 : Nat) (l2 : Int32) (l3 : Int32) : Int32 × pS → List (Option Value) := fun a => [some (.ref l0), some (.ref l1), some (.int l2), some (.int l3), some (.int a.1), none]
abbrev s_X6_measureUpwards_37 (l0 : Nat) (l1 : Nat) (l2 : Int32) (l3 : Int32) : Int32 × pS → pS := fun a => a.2
abbrev K_X6_measureUpwards_37 (X : pX) (Q : pO → Nat → pF → Prop) (mc ms : Nat) (l0 : Nat) (l1 : Nat) (l2 : Int32) (l3 : Int32) : pS → Prop := (fun b => gW X mX6_measureUpwards 96 [some (.ref l0), some (.ref l1), some (.int l2), some (.int l3), none, none] [] b.1 b.2 Q mc ms)
def F_X6_measureUpwards_37 (l0 : Nat) (l1 : Nat) (l2 : Int32) (l3 : Int32) : Int32 × pS → Option ((Int32 × pS) ⊕ (pS)) := fun a => (F_X8_childCount a.2 l1 l3).bind fun q15 => if q15 ≤ a.1 then (some (.inr a.2)) else ((F_X8_childAt a.2 l1 l3 a.1).bind fun q17 => (oGA a.2 l0 6 6).bind fun x19 => (oAI a.2 x19 .int l3).bind fun x21 => (oGA a.2 l0 6 6).bind fun x23 => (oAI a.2 x23 .int q17).bind fun x25 => (oSI a.2 x19 .int l3 (x21 + ((1 : Int32) + x25))).bind fun S27 => (oGA S27 l0 6 7).bind fun x29 => (oAJ S27 x29 .long l3).bind fun x31 => (oGA S27 l0 6 7).bind fun x33 => (oAJ S27 x33 .long q17).bind fun x35 => (oSJ S27 x29 .long l3 (x31 ||| x35)).bind fun S37 => some (.inl (a.1 + (1 : Int32), S37)))
set_option maxRecDepth 100000 in
set_option maxHeartbeats 4000000 in
theorem W_X6_measureUpwards_37 {X : pX} {Q : pO → Nat → pF → Prop} {mc ms : Nat} (l0 : Nat) (l1 : Nat) (l2 : Int32) (l3 : Int32) : ∀ (a : Int32 × pS) (r : (Int32 × pS) ⊕ (pS)), F_X6_measureUpwards_37 l0 l1 l2 l3 a = some r → Sum.elim (fun a' => gW X mX6_measureUpwards 37 (L_X6_measureUpwards_37 l0 l1 l2 l3 a') [] (s_X6_measureUpwards_37 l0 l1 l2 l3 a').1 (s_X6_measureUpwards_37 l0 l1 l2 l3 a').2 Q mc ms) (K_X6_measureUpwards_37 X Q mc ms l0 l1 l2 l3) r → gW X mX6_measureUpwards 37 (L_X6_measureUpwards_37 l0 l1 l2 l3 a) [] (s_X6_measureUpwards_37 l0 l1 l2 l3 a).1 (s_X6_measureUpwards_37 l0 l1 l2 l3 a).2 Q mc ms := by
  intro a r hf hk
  obtain ⟨l4, S⟩ := a
  unfold F_X6_measureUpwards_37 at hf
  try dsimp only at hf
  change gW _ _ _ [some (.ref l0), some (.ref l1), some (.int l2), some (.int l3), some (.int l4), none] _ S.1 S.2 _ _ _
  refine r_iload (pc := 37) dX6_measureUpwards_37 rfl ?_
  refine r_aload_n (pc := 39) dX6_measureUpwards_39 rfl ?_
  refine r_iload_n (pc := 40) dX6_measureUpwards_40 rfl ?_
  replace hf := obind hf
  obtain ⟨q15, e16, hf⟩ := hf
  refine q_callV (pc := 41) (v := some (.int q15)) (S' := S) mX8_childCount 8 [.int l3] dX6_measureUpwards_41 kX6_57 fX8_childCount iX8_childCount ⟨by decide, by decide⟩ rfl rfl rfl (Nat.le_of_ble_eq_true rfl) (og e16) (mc1 := 0) (ms1 := 0) (mc2 := mc) (ms2 := ms) (by omega) (by omega) (C_X8_childCount S l1 l3 q15 e16 (qR_mk _ _)) ?_
  change gW _ _ _ _ (.int q15 :: _) _ _ _ _ _
  refine r_icmp_ge (pc := 44) 96 dX6_measureUpwards_44 (by decide) (fun hc => ?_) (fun hc => ?_)
  · rw [if_pos hc] at hf
    cases hf
    exact gW.weak (by simp [gle]) hk
  · rw [if_neg hc] at hf
    refine r_aload_n (pc := 47) dX6_measureUpwards_47 rfl ?_
    refine r_iload_n (pc := 48) dX6_measureUpwards_48 rfl ?_
    refine r_iload (pc := 49) dX6_measureUpwards_49 rfl ?_
    replace hf := obind hf
    obtain ⟨q17, e18, hf⟩ := hf
    refine q_callV (pc := 51) (v := some (.int q17)) (S' := S) mX8_childAt 8 [.int l3, .int l4] dX6_measureUpwards_51 kX6_61 fX8_childAt iX8_childAt ⟨by decide, by decide⟩ rfl rfl rfl (Nat.le_of_ble_eq_true rfl) (og e18) (mc1 := 0) (ms1 := 0) (mc2 := mc) (ms2 := ms) (by omega) (by omega) (C_X8_childAt S l1 l3 l4 q17 e18 (qR_mk _ _)) ?_
    change gW _ _ _ _ (.int q17 :: _) _ _ _ _ _
    refine r_istore (pc := 54) dX6_measureUpwards_54 (by decide) ?_
    change gW _ _ _ [some (.ref l0), some (.ref l1), some (.int l2), some (.int l3), some (.int l4), some (.int q17)] _ _ _ _ _ _
    refine r_aload_n (pc := 56) dX6_measureUpwards_56 rfl ?_
    replace hf := obind hf
    obtain ⟨x19, e20, hf⟩ := hf
    refine q_getA (pc := 57) dX6_measureUpwards_57 gX6_31 e20 ?_
    refine r_iload_n (pc := 60) dX6_measureUpwards_60 rfl ?_
    refine r_dup2 (pc := 61) dX6_measureUpwards_61 rfl rfl ?_
    replace hf := obind hf
    obtain ⟨x21, e22, hf⟩ := hf
    refine q_iald (pc := 62) dX6_measureUpwards_62 e22 ?_
    refine r_iconst (pc := 63) (1 : Int32) dX6_measureUpwards_63 (by decide) ?_
    refine r_aload_n (pc := 64) dX6_measureUpwards_64 rfl ?_
    replace hf := obind hf
    obtain ⟨x23, e24, hf⟩ := hf
    refine q_getA (pc := 65) dX6_measureUpwards_65 gX6_31 e24 ?_
    refine r_iload (pc := 68) dX6_measureUpwards_68 rfl ?_
    replace hf := obind hf
    obtain ⟨x25, e26, hf⟩ := hf
    refine q_iald (pc := 70) dX6_measureUpwards_70 e26 ?_
    refine r_iadd (pc := 71) dX6_measureUpwards_71 ?_
    refine r_iadd (pc := 72) dX6_measureUpwards_72 ?_
    replace hf := obind hf
    obtain ⟨S27, e28, hf⟩ := hf
    refine q_iast (pc := 73) dX6_measureUpwards_73 e28 ?_
    refine r_aload_n (pc := 74) dX6_measureUpwards_74 rfl ?_
    replace hf := obind hf
    obtain ⟨x29, e30, hf⟩ := hf
    refine q_getA (pc := 75) dX6_measureUpwards_75 gX6_34 e30 ?_
    refine r_iload_n (pc := 78) dX6_measureUpwards_78 rfl ?_
    refine r_dup2 (pc := 79) dX6_measureUpwards_79 rfl rfl ?_
    replace hf := obind hf
    obtain ⟨x31, e32, hf⟩ := hf
    refine q_lald (pc := 80) dX6_measureUpwards_80 e32 ?_
    refine r_aload_n (pc := 81) dX6_measureUpwards_81 rfl ?_
    replace hf := obind hf
    obtain ⟨x33, e34, hf⟩ := hf
    refine q_getA (pc := 82) dX6_measureUpwards_82 gX6_34 e34 ?_
    refine r_iload (pc := 85) dX6_measureUpwards_85 rfl ?_
    replace hf := obind hf
    obtain ⟨x35, e36, hf⟩ := hf
    refine q_lald (pc := 87) dX6_measureUpwards_87 e36 ?_
    refine r_lor (pc := 88) dX6_measureUpwards_88 ?_
    replace hf := obind hf
    obtain ⟨S37, e38, hf⟩ := hf
    refine q_last (pc := 89) dX6_measureUpwards_89 e38 ?_
    refine r_iinc (pc := 90) dX6_measureUpwards_90 rfl (by decide) ?_
    change gW _ _ _ [some (.ref l0), some (.ref l1), some (.int l2), some (.int l3), some (.int (l4 + (1 : Int32))), some (.int q17)] _ _ _ _ _ _
    refine r_goto (pc := 93) 37 dX6_measureUpwards_93 (by decide) ?_
    cases hf
    exact gW.weak (by simp [gle]) hk
def F_X6_measureUpwards_7 (l0 : Nat) (l1 : Nat) : Int32 × pS → Option ((Int32 × pS) ⊕ (pS)) := fun a => if a.1 < 0 then (some (.inr a.2)) else ((oGA a.2 l0 6 2).bind fun x3 => (oAI a.2 x3 .int a.1).bind fun x5 => (oGA a.2 l0 6 6).bind fun x7 => (oSI a.2 x7 .int x5 (0 : Int32)).bind fun S9 => (oGA S9 l0 6 7).bind fun x11 => (oSJ S9 x11 .long x5 ((1 : Int64) <<< (x5.toInt64 &&& 63))).bind fun S13 => (iter (F_X6_measureUpwards_37 l0 l1 a.1 x5) fu ((0 : Int32), S13)).bind fun r39 => some (.inl (a.1 + (-1 : Int32), r39)))
set_option maxRecDepth 100000 in
set_option maxHeartbeats 4000000 in
theorem W_X6_measureUpwards_7 {X : pX} {Q : pO → Nat → pF → Prop} {mc ms : Nat} (l0 : Nat) (l1 : Nat) : ∀ (a : Int32 × pS) (r : (Int32 × pS) ⊕ (pS)), F_X6_measureUpwards_7 l0 l1 a = some r → Sum.elim (fun a' => gW X mX6_measureUpwards 7 (L_X6_measureUpwards_7 l0 l1 a') [] (s_X6_measureUpwards_7 l0 l1 a').1 (s_X6_measureUpwards_7 l0 l1 a').2 Q mc ms) (K_X6_measureUpwards_7 X Q mc ms l0 l1) r → gW X mX6_measureUpwards 7 (L_X6_measureUpwards_7 l0 l1 a) [] (s_X6_measureUpwards_7 l0 l1 a).1 (s_X6_measureUpwards_7 l0 l1 a).2 Q mc ms := by
  intro a r hf hk
  obtain ⟨l2, S⟩ := a
  unfold F_X6_measureUpwards_7 at hf
  try dsimp only at hf
  change gW _ _ _ [some (.ref l0), some (.ref l1), some (.int l2), none, none, none] _ S.1 S.2 _ _ _
  refine r_iload_n (pc := 7) dX6_measureUpwards_7 rfl ?_
  refine r_if_lt (pc := 8) 102 dX6_measureUpwards_8 (by decide) (fun hc => ?_) (fun hc => ?_)
  · rw [if_pos hc] at hf
    cases hf
    exact gW.weak (by simp [gle]) hk
  · rw [if_neg hc] at hf
    refine r_aload_n (pc := 11) dX6_measureUpwards_11 rfl ?_
    replace hf := obind hf
    obtain ⟨x3, e4, hf⟩ := hf
    refine q_getA (pc := 12) dX6_measureUpwards_12 gX6_18 e4 ?_
    refine r_iload_n (pc := 15) dX6_measureUpwards_15 rfl ?_
    replace hf := obind hf
    obtain ⟨x5, e6, hf⟩ := hf
    refine q_iald (pc := 16) dX6_measureUpwards_16 e6 ?_
    refine r_istore_n (pc := 17) dX6_measureUpwards_17 (by decide) ?_
    change gW _ _ _ [some (.ref l0), some (.ref l1), some (.int l2), some (.int x5), none, none] _ _ _ _ _ _
    refine r_aload_n (pc := 18) dX6_measureUpwards_18 rfl ?_
    replace hf := obind hf
    obtain ⟨x7, e8, hf⟩ := hf
    refine q_getA (pc := 19) dX6_measureUpwards_19 gX6_31 e8 ?_
    refine r_iload_n (pc := 22) dX6_measureUpwards_22 rfl ?_
    refine r_iconst (pc := 23) (0 : Int32) dX6_measureUpwards_23 (by decide) ?_
    replace hf := obind hf
    obtain ⟨S9, e10, hf⟩ := hf
    refine q_iast (pc := 24) dX6_measureUpwards_24 e10 ?_
    refine r_aload_n (pc := 25) dX6_measureUpwards_25 rfl ?_
    replace hf := obind hf
    obtain ⟨x11, e12, hf⟩ := hf
    refine q_getA (pc := 26) dX6_measureUpwards_26 gX6_34 e12 ?_
    refine r_iload_n (pc := 29) dX6_measureUpwards_29 rfl ?_
    refine r_lconst (pc := 30) (1 : Int64) dX6_measureUpwards_30 (by decide) ?_
    refine r_iload_n (pc := 31) dX6_measureUpwards_31 rfl ?_
    refine r_lshl (pc := 32) dX6_measureUpwards_32 ?_
    replace hf := obind hf
    obtain ⟨S13, e14, hf⟩ := hf
    refine q_last (pc := 33) dX6_measureUpwards_33 e14 ?_
    refine r_iconst (pc := 34) (0 : Int32) dX6_measureUpwards_34 (by decide) ?_
    refine r_istore (pc := 35) dX6_measureUpwards_35 (by decide) ?_
    change gW _ _ _ [some (.ref l0), some (.ref l1), some (.int l2), some (.int x5), some (.int (0 : Int32)), none] _ _ _ _ _ _
    replace hf := obind hf
    obtain ⟨r39, e40, hf⟩ := hf
    refine gW.weak (ls' := [some (.ref l0), some (.ref l1), some (.int l2), some (.int x5), some (.int (0 : Int32)), none]) (by simp [gle]) ?_
    refine g_iter (L := L_X6_measureUpwards_37 l0 l1 l2 x5) (s := s_X6_measureUpwards_37 l0 l1 l2 x5) (K := K_X6_measureUpwards_37 X Q _ _ l0 l1 l2 x5) (W_X6_measureUpwards_37 l0 l1 l2 x5) fu ((0 : Int32), S13) _ e40 ?_
    show gW _ _ 96 [some (.ref l0), some (.ref l1), some (.int l2), some (.int x5), none, none] [] r39.1 r39.2 _ _ _
    refine r_iinc (pc := 96) dX6_measureUpwards_96 rfl (by decide) ?_
    change gW _ _ _ [some (.ref l0), some (.ref l1), some (.int (l2 + (-1 : Int32))), some (.int x5), none, none] _ _ _ _ _ _
    refine r_goto (pc := 99) 7 dX6_measureUpwards_99 (by decide) ?_
    cases hf
    exact gW.weak (by simp [gle]) hk
def F_X6_measureUpwards (S : pS) (a0 : Nat) (a1 : Nat) : Option (pS) := (oF S a0 6).bind fun _ => (oGI S a0 6 3).bind fun x1 => (iter (F_X6_measureUpwards_7 a0 a1) fu (x1 - (1 : Int32), S)).bind fun r41 => some r41
set_option maxRecDepth 100000 in
set_option maxHeartbeats 4000000 in
theorem C_X6_measureUpwards {X : pX} {Q : pO → Nat → pF → Prop} (S : pS) (a0 : Nat) (a1 : Nat) (r : pS) (hf : F_X6_measureUpwards S a0 a1 = some r) (hk : Q (.inl none) r.1 r.2) : gC X mX6_measureUpwards [.ref a0, .ref a1] S.1 S.2 Q 0 0 := by
  refine gC_of (by decide) (Nat.le_of_ble_eq_true rfl) rfl ?_
  change gW _ _ _ [some (.ref a0), some (.ref a1), none, none, none, none] _ _ _ _ _ _
  unfold F_X6_measureUpwards at hf
  obtain ⟨_, _, hf⟩ := obind hf
  refine r_aload_n (pc := 0) dX6_measureUpwards_0 rfl ?_
  replace hf := obind hf
  obtain ⟨x1, e2, hf⟩ := hf
  refine q_getI (pc := 1) dX6_measureUpwards_1 gX6_21 e2 ?_
  refine r_iconst (pc := 4) (1 : Int32) dX6_measureUpwards_4 (by decide) ?_
  refine r_isub (pc := 5) dX6_measureUpwards_5 ?_
  refine r_istore_n (pc := 6) dX6_measureUpwards_6 (by decide) ?_
  change gW _ _ _ [some (.ref a0), some (.ref a1), some (.int (x1 - (1 : Int32))), none, none, none] _ _ _ _ _ _
  replace hf := obind hf
  obtain ⟨r41, e42, hf⟩ := hf
  refine gW.weak (ls' := [some (.ref a0), some (.ref a1), some (.int (x1 - (1 : Int32))), none, none, none]) (by simp [gle]) ?_
  refine g_iter (L := L_X6_measureUpwards_7 a0 a1) (s := s_X6_measureUpwards_7 a0 a1) (K := K_X6_measureUpwards_7 X Q _ _ a0 a1) (W_X6_measureUpwards_7 a0 a1) fu (x1 - (1 : Int32), S) _ e42 ?_
  show gW _ _ 102 [some (.ref a0), some (.ref a1), none, none, none, none] [] r41.1 r41.2 _ _ _
  refine r_return (pc := 102) dX6_measureUpwards_102 rfl ?_
  cases hf
  exact hk
def F_X6_measure (S : pS) (a0 : Nat) (a1 : Nat) : Option (pS) := (oF S a0 6).bind fun _ => (F_X6_countParents S a0 a1).bind fun q1 => (F_X6_orderItems q1 a0 a1).bind fun q3 => (F_X6_measureDownwards q3 a0 a1).bind fun q5 => (F_X6_measureUpwards q5 a0 a1).bind fun q7 => some q7
set_option maxRecDepth 100000 in
set_option maxHeartbeats 4000000 in
theorem C_X6_measure {X : pX} {Q : pO → Nat → pF → Prop} (S : pS) (a0 : Nat) (a1 : Nat) (r : pS) (hf : F_X6_measure S a0 a1 = some r) (hk : Q (.inl none) r.1 r.2) : gC X mX6_measure [.ref a0, .ref a1] S.1 S.2 Q 0 0 := by
  refine gC_of (by decide) (Nat.le_of_ble_eq_true rfl) rfl ?_
  change gW _ _ _ [some (.ref a0), some (.ref a1)] _ _ _ _ _ _
  unfold F_X6_measure at hf
  obtain ⟨_, _, hf⟩ := obind hf
  refine r_aload_n (pc := 0) dX6_measure_0 rfl ?_
  refine r_aload_n (pc := 1) dX6_measure_1 rfl ?_
  replace hf := obind hf
  obtain ⟨q1, e2, hf⟩ := hf
  refine q_callV (pc := 2) (v := none) (S' := q1) mX6_countParents 6 [.ref a1] dX6_measure_2 kX6_38 fX6_countParents iX6_countParents ⟨by decide, by decide⟩ rfl rfl rfl (Nat.le_of_ble_eq_true rfl) (og e2) (mc1 := 0) (ms1 := 0) (mc2 := 0) (ms2 := 0) (by decide) (by decide) (C_X6_countParents S a0 a1 q1 e2 (qR_mk _ _)) ?_
  refine r_aload_n (pc := 5) dX6_measure_5 rfl ?_
  refine r_aload_n (pc := 6) dX6_measure_6 rfl ?_
  replace hf := obind hf
  obtain ⟨q3, e4, hf⟩ := hf
  refine q_callV (pc := 7) (v := none) (S' := q3) mX6_orderItems 6 [.ref a1] dX6_measure_7 kX6_42 fX6_orderItems iX6_orderItems ⟨by decide, by decide⟩ rfl rfl rfl (Nat.le_of_ble_eq_true rfl) (og e4) (mc1 := 0) (ms1 := 0) (mc2 := 0) (ms2 := 0) (by decide) (by decide) (C_X6_orderItems q1 a0 a1 q3 e4 (qR_mk _ _)) ?_
  refine r_aload_n (pc := 10) dX6_measure_10 rfl ?_
  refine r_aload_n (pc := 11) dX6_measure_11 rfl ?_
  replace hf := obind hf
  obtain ⟨q5, e6, hf⟩ := hf
  refine q_callV (pc := 12) (v := none) (S' := q5) mX6_measureDownwards 6 [.ref a1] dX6_measure_12 kX6_45 fX6_measureDownwards iX6_measureDownwards ⟨by decide, by decide⟩ rfl rfl rfl (Nat.le_of_ble_eq_true rfl) (og e6) (mc1 := 0) (ms1 := 0) (mc2 := 0) (ms2 := 0) (by decide) (by decide) (C_X6_measureDownwards q3 a0 a1 q5 e6 (qR_mk _ _)) ?_
  refine r_aload_n (pc := 15) dX6_measure_15 rfl ?_
  refine r_aload_n (pc := 16) dX6_measure_16 rfl ?_
  replace hf := obind hf
  obtain ⟨q7, e8, hf⟩ := hf
  refine q_callV (pc := 17) (v := none) (S' := q7) mX6_measureUpwards 6 [.ref a1] dX6_measure_17 kX6_48 fX6_measureUpwards iX6_measureUpwards ⟨by decide, by decide⟩ rfl rfl rfl (Nat.le_of_ble_eq_true rfl) (og e8) (mc1 := 0) (ms1 := 0) (mc2 := 0) (ms2 := 0) (by decide) (by decide) (C_X6_measureUpwards q5 a0 a1 q7 e8 (qR_mk _ _)) ?_
  refine r_return (pc := 20) dX6_measure_20 rfl ?_
  cases hf
  exact hk
def F_X6_parentsOf (S : pS) (a0 : Nat) (a1 : Int32) : Option (Int32) := (oF S a0 6).bind fun _ => (oGA S a0 6 0).bind fun x1 => (oAI S x1 .int a1).bind fun x3 => some x3
set_option maxRecDepth 100000 in
set_option maxHeartbeats 4000000 in
theorem C_X6_parentsOf {X : pX} {Q : pO → Nat → pF → Prop} (S : pS) (a0 : Nat) (a1 : Int32) (r : Int32) (hf : F_X6_parentsOf S a0 a1 = some r) (hk : Q (.inl (some (.int r))) S.1 S.2) : gC X mX6_parentsOf [.ref a0, .int a1] S.1 S.2 Q 0 0 := by
  refine gC_of (by decide) (Nat.le_of_ble_eq_true rfl) rfl ?_
  change gW _ _ _ [some (.ref a0), some (.int a1)] _ _ _ _ _ _
  unfold F_X6_parentsOf at hf
  obtain ⟨_, _, hf⟩ := obind hf
  refine r_aload_n (pc := 0) dX6_parentsOf_0 rfl ?_
  replace hf := obind hf
  obtain ⟨x1, e2, hf⟩ := hf
  refine q_getA (pc := 1) dX6_parentsOf_1 gX6_9 e2 ?_
  refine r_iload_n (pc := 4) dX6_parentsOf_4 rfl ?_
  replace hf := obind hf
  obtain ⟨x3, e4, hf⟩ := hf
  refine q_iald (pc := 5) dX6_parentsOf_5 e4 ?_
  refine r_ireturn (pc := 6) .int dX6_parentsOf_6 rfl rfl ?_
  cases hf
  exact hk
def F_X6_placesOf (S : pS) (a0 : Nat) (a1 : Int32) : Option (Int32) := (oF S a0 6).bind fun _ => (oGA S a0 6 4).bind fun x1 => (oAI S x1 .int a1).bind fun x3 => some x3
set_option maxRecDepth 100000 in
set_option maxHeartbeats 4000000 in
theorem C_X6_placesOf {X : pX} {Q : pO → Nat → pF → Prop} (S : pS) (a0 : Nat) (a1 : Int32) (r : Int32) (hf : F_X6_placesOf S a0 a1 = some r) (hk : Q (.inl (some (.int r))) S.1 S.2) : gC X mX6_placesOf [.ref a0, .int a1] S.1 S.2 Q 0 0 := by
  refine gC_of (by decide) (Nat.le_of_ble_eq_true rfl) rfl ?_
  change gW _ _ _ [some (.ref a0), some (.int a1)] _ _ _ _ _ _
  unfold F_X6_placesOf at hf
  obtain ⟨_, _, hf⟩ := obind hf
  refine r_aload_n (pc := 0) dX6_placesOf_0 rfl ?_
  replace hf := obind hf
  obtain ⟨x1, e2, hf⟩ := hf
  refine q_getA (pc := 1) dX6_placesOf_1 gX6_25 e2 ?_
  refine r_iload_n (pc := 4) dX6_placesOf_4 rfl ?_
  replace hf := obind hf
  obtain ⟨x3, e4, hf⟩ := hf
  refine q_iald (pc := 5) dX6_placesOf_5 e4 ?_
  refine r_ireturn (pc := 6) .int dX6_placesOf_6 rfl rfl ?_
  cases hf
  exact hk
def F_X6_placesBelow (S : pS) (a0 : Nat) (a1 : Int32) : Option (Int32) := (oF S a0 6).bind fun _ => (oGA S a0 6 6).bind fun x1 => (oAI S x1 .int a1).bind fun x3 => some x3
set_option maxRecDepth 100000 in
set_option maxHeartbeats 4000000 in
theorem C_X6_placesBelow {X : pX} {Q : pO → Nat → pF → Prop} (S : pS) (a0 : Nat) (a1 : Int32) (r : Int32) (hf : F_X6_placesBelow S a0 a1 = some r) (hk : Q (.inl (some (.int r))) S.1 S.2) : gC X mX6_placesBelow [.ref a0, .int a1] S.1 S.2 Q 0 0 := by
  refine gC_of (by decide) (Nat.le_of_ble_eq_true rfl) rfl ?_
  change gW _ _ _ [some (.ref a0), some (.int a1)] _ _ _ _ _ _
  unfold F_X6_placesBelow at hf
  obtain ⟨_, _, hf⟩ := obind hf
  refine r_aload_n (pc := 0) dX6_placesBelow_0 rfl ?_
  replace hf := obind hf
  obtain ⟨x1, e2, hf⟩ := hf
  refine q_getA (pc := 1) dX6_placesBelow_1 gX6_31 e2 ?_
  refine r_iload_n (pc := 4) dX6_placesBelow_4 rfl ?_
  replace hf := obind hf
  obtain ⟨x3, e4, hf⟩ := hf
  refine q_iald (pc := 5) dX6_placesBelow_5 e4 ?_
  refine r_ireturn (pc := 6) .int dX6_placesBelow_6 rfl rfl ?_
  cases hf
  exact hk
abbrev L_X6_greatestDepth_4 (l0 : Nat) (S : pS) : Int32 × Int32 → List (Option Value) := fun a => [some (.ref l0), some (.int a.1), some (.int a.2)]
abbrev s_X6_greatestDepth_4 (l0 : Nat) (S : pS) : Int32 × Int32 → pS := fun a => S
abbrev K_X6_greatestDepth_4 (X : pX) (Q : pO → Nat → pF → Prop) (mc ms : Nat) (l0 : Nat) (S : pS) : Int32 → Prop := (fun b => gW X mX6_greatestDepth 34 [some (.ref l0), some (.int b), none] [] S.1 S.2 Q mc ms)
def F_X6_greatestDepth_4 (l0 : Nat) (S : pS) : Int32 × Int32 → Option ((Int32 × Int32) ⊕ (Int32)) := fun a => (oGI S l0 6 3).bind fun x1 => if x1 ≤ a.2 then (some (.inr a.1)) else ((oGA S l0 6 5).bind fun x3 => (oGA S l0 6 2).bind fun x5 => (oAI S x5 .int a.2).bind fun x7 => (oAI S x3 .int x7).bind fun x9 => some (.inl (if a.1 < x9 then x9 else a.1, a.2 + (1 : Int32))))
set_option maxRecDepth 100000 in
set_option maxHeartbeats 4000000 in
theorem W_X6_greatestDepth_4 {X : pX} {Q : pO → Nat → pF → Prop} {mc ms : Nat} (l0 : Nat) (S : pS) : ∀ (a : Int32 × Int32) (r : (Int32 × Int32) ⊕ (Int32)), F_X6_greatestDepth_4 l0 S a = some r → Sum.elim (fun a' => gW X mX6_greatestDepth 4 (L_X6_greatestDepth_4 l0 S a') [] (s_X6_greatestDepth_4 l0 S a').1 (s_X6_greatestDepth_4 l0 S a').2 Q mc ms) (K_X6_greatestDepth_4 X Q mc ms l0 S) r → gW X mX6_greatestDepth 4 (L_X6_greatestDepth_4 l0 S a) [] (s_X6_greatestDepth_4 l0 S a).1 (s_X6_greatestDepth_4 l0 S a).2 Q mc ms := by
  intro a r hf hk
  obtain ⟨l1, l2⟩ := a
  unfold F_X6_greatestDepth_4 at hf
  try dsimp only at hf
  change gW _ _ _ [some (.ref l0), some (.int l1), some (.int l2)] _ S.1 S.2 _ _ _
  refine r_iload_n (pc := 4) dX6_greatestDepth_4 rfl ?_
  refine r_aload_n (pc := 5) dX6_greatestDepth_5 rfl ?_
  replace hf := obind hf
  obtain ⟨x1, e2, hf⟩ := hf
  refine q_getI (pc := 6) dX6_greatestDepth_6 gX6_21 e2 ?_
  refine r_icmp_ge (pc := 9) 34 dX6_greatestDepth_9 (by decide) (fun hc => ?_) (fun hc => ?_)
  · rw [if_pos hc] at hf
    cases hf
    exact gW.weak (by simp [gle]) hk
  · rw [if_neg hc] at hf
    refine r_iload_n (pc := 12) dX6_greatestDepth_12 rfl ?_
    refine r_aload_n (pc := 13) dX6_greatestDepth_13 rfl ?_
    replace hf := obind hf
    obtain ⟨x3, e4, hf⟩ := hf
    refine q_getA (pc := 14) dX6_greatestDepth_14 gX6_28 e4 ?_
    refine r_aload_n (pc := 17) dX6_greatestDepth_17 rfl ?_
    replace hf := obind hf
    obtain ⟨x5, e6, hf⟩ := hf
    refine q_getA (pc := 18) dX6_greatestDepth_18 gX6_18 e6 ?_
    refine r_iload_n (pc := 21) dX6_greatestDepth_21 rfl ?_
    replace hf := obind hf
    obtain ⟨x7, e8, hf⟩ := hf
    refine q_iald (pc := 22) dX6_greatestDepth_22 e8 ?_
    replace hf := obind hf
    obtain ⟨x9, e10, hf⟩ := hf
    refine q_iald (pc := 23) dX6_greatestDepth_23 e10 ?_
    refine r_max (pc := 24) dX6_greatestDepth_24 kX6_69 k_max.1 k_max.2.1 k_max.2.2 ⟨by decide, Nat.le_of_ble_eq_true rfl⟩ ?_
    refine r_istore_n (pc := 27) dX6_greatestDepth_27 (by decide) ?_
    change gW _ _ _ [some (.ref l0), some (.int (if l1 < x9 then x9 else l1)), some (.int l2)] _ _ _ _ _ _
    refine r_iinc (pc := 28) dX6_greatestDepth_28 rfl (by decide) ?_
    change gW _ _ _ [some (.ref l0), some (.int (if l1 < x9 then x9 else l1)), some (.int (l2 + (1 : Int32)))] _ _ _ _ _ _
    refine r_goto (pc := 31) 4 dX6_greatestDepth_31 (by decide) ?_
    cases hf
    exact gW.weak (by simp [gle]) hk
def F_X6_greatestDepth (S : pS) (a0 : Nat) : Option (Int32) := (oF S a0 6).bind fun _ => (iter (F_X6_greatestDepth_4 a0 S) fu ((0 : Int32), (0 : Int32))).bind fun r11 => some r11
set_option maxRecDepth 100000 in
set_option maxHeartbeats 4000000 in
theorem C_X6_greatestDepth {X : pX} {Q : pO → Nat → pF → Prop} (S : pS) (a0 : Nat) (r : Int32) (hf : F_X6_greatestDepth S a0 = some r) (hk : Q (.inl (some (.int r))) S.1 S.2) : gC X mX6_greatestDepth [.ref a0] S.1 S.2 Q 0 0 := by
  refine gC_of (by decide) (Nat.le_of_ble_eq_true rfl) rfl ?_
  change gW _ _ _ [some (.ref a0), none, none] _ _ _ _ _ _
  unfold F_X6_greatestDepth at hf
  obtain ⟨_, _, hf⟩ := obind hf
  refine r_iconst (pc := 0) (0 : Int32) dX6_greatestDepth_0 (by decide) ?_
  refine r_istore_n (pc := 1) dX6_greatestDepth_1 (by decide) ?_
  change gW _ _ _ [some (.ref a0), some (.int (0 : Int32)), none] _ _ _ _ _ _
  refine r_iconst (pc := 2) (0 : Int32) dX6_greatestDepth_2 (by decide) ?_
  refine r_istore_n (pc := 3) dX6_greatestDepth_3 (by decide) ?_
  change gW _ _ _ [some (.ref a0), some (.int (0 : Int32)), some (.int (0 : Int32))] _ _ _ _ _ _
  replace hf := obind hf
  obtain ⟨r11, e12, hf⟩ := hf
  refine gW.weak (ls' := [some (.ref a0), some (.int (0 : Int32)), some (.int (0 : Int32))]) (by simp [gle]) ?_
  refine g_iter (L := L_X6_greatestDepth_4 a0 S) (s := s_X6_greatestDepth_4 a0 S) (K := K_X6_greatestDepth_4 X Q _ _ a0 S) (W_X6_greatestDepth_4 a0 S) fu ((0 : Int32), (0 : Int32)) _ e12 ?_
  show gW _ _ 34 [some (.ref a0), some (.int r11), none] [] S.1 S.2 _ _ _
  refine r_iload_n (pc := 34) dX6_greatestDepth_34 rfl ?_
  refine r_ireturn (pc := 35) .int dX6_greatestDepth_35 rfl rfl ?_
  cases hf
  exact hk
abbrev L_X6_itemsAtOrAbove_5 (l0 : Nat) (l1 : Int64) (S : pS) : Int64 × Int32 → List (Option Value) := fun a => [some (.ref l0), some (.long l1), none, some (.long a.1), none, some (.int a.2)]
abbrev s_X6_itemsAtOrAbove_5 (l0 : Nat) (l1 : Int64) (S : pS) : Int64 × Int32 → pS := fun a => S
abbrev K_X6_itemsAtOrAbove_5 (X : pX) (Q : pO → Nat → pF → Prop) (mc ms : Nat) (l0 : Nat) (l1 : Int64) (S : pS) : Int64 → Prop := (fun b => gW X mX6_itemsAtOrAbove 56 [some (.ref l0), some (.long l1), none, some (.long b), none, none] [] S.1 S.2 Q mc ms)
def F_X6_itemsAtOrAbove_46 (l0 : Nat) (l1 : Int64) (S : pS) (l5 : Int32) (t0 : Int64) (t1 : Int32) (t2 : Int32) : Option ((Int64 × Int32) ⊕ (Int64)) := (F_X9_with S t0 t1 t2).bind fun q15 => some (.inl (q15, l5 + (1 : Int32)))
set_option maxRecDepth 100000 in
set_option maxHeartbeats 4000000 in
theorem W_X6_itemsAtOrAbove_46 {X : pX} {Q : pO → Nat → pF → Prop} {mc ms : Nat} (l0 : Nat) (l1 : Int64) (S : pS) (l5 : Int32) (t0 : Int64) (t1 : Int32) (t2 : Int32) (r : (Int64 × Int32) ⊕ (Int64)) (hf : F_X6_itemsAtOrAbove_46 l0 l1 S l5 t0 t1 t2 = some r) (hk : Sum.elim (fun a' => gW X mX6_itemsAtOrAbove 5 (L_X6_itemsAtOrAbove_5 l0 l1 S a') [] (s_X6_itemsAtOrAbove_5 l0 l1 S a').1 (s_X6_itemsAtOrAbove_5 l0 l1 S a').2 Q mc ms) (K_X6_itemsAtOrAbove_5 X Q mc ms l0 l1 S) r) : gW X mX6_itemsAtOrAbove 46 [some (.ref l0), some (.long l1), none, none, none, some (.int l5)] [.int t2, .int t1, .long t0] S.1 S.2 Q mc ms := by
  unfold F_X6_itemsAtOrAbove_46 at hf
  replace hf := obind hf
  obtain ⟨q15, e16, hf⟩ := hf
  refine q_callSN (pc := 46) (v := some (.long q15)) (S' := S) mX9_with [.long t0, .int t1, .int t2] dX6_itemsAtOrAbove_46 kX6_74 fX9_with sX9_with ⟨by decide, by decide⟩ rfl rfl (Nat.le_of_ble_eq_true rfl) (mc1 := 0) (ms1 := 0) (mc2 := mc) (ms2 := ms) (by omega) (by omega) (C_X9_with S t0 t1 t2 q15 e16 (qR_mk _ _)) ?_
  change gW _ _ _ _ (.long q15 :: _) _ _ _ _ _
  refine r_lstore_n (pc := 49) dX6_itemsAtOrAbove_49 (by decide) ?_
  change gW _ _ _ [some (.ref l0), some (.long l1), none, some (.long q15), none, some (.int l5)] _ _ _ _ _ _
  refine r_iinc (pc := 50) dX6_itemsAtOrAbove_50 rfl (by decide) ?_
  change gW _ _ _ [some (.ref l0), some (.long l1), none, some (.long q15), none, some (.int (l5 + (1 : Int32)))] _ _ _ _ _ _
  refine r_goto (pc := 53) 5 dX6_itemsAtOrAbove_53 (by decide) ?_
  cases hf
  exact gW.weak (by simp [gle]) hk
def F_X6_itemsAtOrAbove_5 (l0 : Nat) (l1 : Int64) (S : pS) : Int64 × Int32 → Option ((Int64 × Int32) ⊕ (Int64)) := fun a => (oGI S l0 6 3).bind fun x1 => if x1 ≤ a.2 then (some (.inr a.1)) else ((oGA S l0 6 2).bind fun x3 => (oAI S x3 .int a.2).bind fun x5 => (oGA S l0 6 7).bind fun x7 => (oGA S l0 6 2).bind fun x9 => (oAI S x9 .int a.2).bind fun x11 => (oAJ S x7 .long x11).bind fun x13 => if (lg_cmp (x13 &&& l1) (0 : Int64)) = 0 then (F_X6_itemsAtOrAbove_46 l0 l1 S a.2 a.1 x5 (0 : Int32)) else (F_X6_itemsAtOrAbove_46 l0 l1 S a.2 a.1 x5 (1 : Int32)))
set_option maxRecDepth 100000 in
set_option maxHeartbeats 4000000 in
theorem W_X6_itemsAtOrAbove_5 {X : pX} {Q : pO → Nat → pF → Prop} {mc ms : Nat} (l0 : Nat) (l1 : Int64) (S : pS) : ∀ (a : Int64 × Int32) (r : (Int64 × Int32) ⊕ (Int64)), F_X6_itemsAtOrAbove_5 l0 l1 S a = some r → Sum.elim (fun a' => gW X mX6_itemsAtOrAbove 5 (L_X6_itemsAtOrAbove_5 l0 l1 S a') [] (s_X6_itemsAtOrAbove_5 l0 l1 S a').1 (s_X6_itemsAtOrAbove_5 l0 l1 S a').2 Q mc ms) (K_X6_itemsAtOrAbove_5 X Q mc ms l0 l1 S) r → gW X mX6_itemsAtOrAbove 5 (L_X6_itemsAtOrAbove_5 l0 l1 S a) [] (s_X6_itemsAtOrAbove_5 l0 l1 S a).1 (s_X6_itemsAtOrAbove_5 l0 l1 S a).2 Q mc ms := by
  intro a r hf hk
  obtain ⟨l3, l5⟩ := a
  unfold F_X6_itemsAtOrAbove_5 at hf
  try dsimp only at hf
  change gW _ _ _ [some (.ref l0), some (.long l1), none, some (.long l3), none, some (.int l5)] _ S.1 S.2 _ _ _
  refine r_iload (pc := 5) dX6_itemsAtOrAbove_5 rfl ?_
  refine r_aload_n (pc := 7) dX6_itemsAtOrAbove_7 rfl ?_
  replace hf := obind hf
  obtain ⟨x1, e2, hf⟩ := hf
  refine q_getI (pc := 8) dX6_itemsAtOrAbove_8 gX6_21 e2 ?_
  refine r_icmp_ge (pc := 11) 56 dX6_itemsAtOrAbove_11 (by decide) (fun hc => ?_) (fun hc => ?_)
  · rw [if_pos hc] at hf
    cases hf
    exact gW.weak (by simp [gle]) hk
  · rw [if_neg hc] at hf
    refine r_lload_n (pc := 14) dX6_itemsAtOrAbove_14 rfl ?_
    refine r_aload_n (pc := 15) dX6_itemsAtOrAbove_15 rfl ?_
    replace hf := obind hf
    obtain ⟨x3, e4, hf⟩ := hf
    refine q_getA (pc := 16) dX6_itemsAtOrAbove_16 gX6_18 e4 ?_
    refine r_iload (pc := 19) dX6_itemsAtOrAbove_19 rfl ?_
    replace hf := obind hf
    obtain ⟨x5, e6, hf⟩ := hf
    refine q_iald (pc := 21) dX6_itemsAtOrAbove_21 e6 ?_
    refine r_aload_n (pc := 22) dX6_itemsAtOrAbove_22 rfl ?_
    replace hf := obind hf
    obtain ⟨x7, e8, hf⟩ := hf
    refine q_getA (pc := 23) dX6_itemsAtOrAbove_23 gX6_34 e8 ?_
    refine r_aload_n (pc := 26) dX6_itemsAtOrAbove_26 rfl ?_
    replace hf := obind hf
    obtain ⟨x9, e10, hf⟩ := hf
    refine q_getA (pc := 27) dX6_itemsAtOrAbove_27 gX6_18 e10 ?_
    refine r_iload (pc := 30) dX6_itemsAtOrAbove_30 rfl ?_
    replace hf := obind hf
    obtain ⟨x11, e12, hf⟩ := hf
    refine q_iald (pc := 32) dX6_itemsAtOrAbove_32 e12 ?_
    replace hf := obind hf
    obtain ⟨x13, e14, hf⟩ := hf
    refine q_lald (pc := 33) dX6_itemsAtOrAbove_33 e14 ?_
    refine r_lload_n (pc := 34) dX6_itemsAtOrAbove_34 rfl ?_
    refine r_land (pc := 35) dX6_itemsAtOrAbove_35 ?_
    refine r_lconst (pc := 36) (0 : Int64) dX6_itemsAtOrAbove_36 (by decide) ?_
    refine r_lcmp (pc := 37) dX6_itemsAtOrAbove_37 ?_
    refine r_if_eq (pc := 38) 45 dX6_itemsAtOrAbove_38 (by decide) (fun hc => ?_) (fun hc => ?_)
    · rw [if_pos hc] at hf
      refine r_iconst (pc := 45) (0 : Int32) dX6_itemsAtOrAbove_45 (by decide) ?_
      exact gW.weak (by simp [gle]) (W_X6_itemsAtOrAbove_46 l0 l1 S l5 l3 x5 (0 : Int32) r hf hk)
    · rw [if_neg hc] at hf
      refine r_iconst (pc := 41) (1 : Int32) dX6_itemsAtOrAbove_41 (by decide) ?_
      refine r_goto (pc := 42) 46 dX6_itemsAtOrAbove_42 (by decide) ?_
      exact gW.weak (by simp [gle]) (W_X6_itemsAtOrAbove_46 l0 l1 S l5 l3 x5 (1 : Int32) r hf hk)
def F_X6_itemsAtOrAbove (S : pS) (a0 : Nat) (a1 : Int64) : Option (Int64) := (oF S a0 6).bind fun _ => (iter (F_X6_itemsAtOrAbove_5 a0 a1 S) fu ((0 : Int64), (0 : Int32))).bind fun r17 => some r17
set_option maxRecDepth 100000 in
set_option maxHeartbeats 4000000 in
theorem C_X6_itemsAtOrAbove {X : pX} {Q : pO → Nat → pF → Prop} (S : pS) (a0 : Nat) (a1 : Int64) (r : Int64) (hf : F_X6_itemsAtOrAbove S a0 a1 = some r) (hk : Q (.inl (some (.long r))) S.1 S.2) : gC X mX6_itemsAtOrAbove [.ref a0, .long a1] S.1 S.2 Q 0 0 := by
  refine gC_of (by decide) (Nat.le_of_ble_eq_true rfl) rfl ?_
  change gW _ _ _ [some (.ref a0), some (.long a1), none, none, none, none] _ _ _ _ _ _
  unfold F_X6_itemsAtOrAbove at hf
  obtain ⟨_, _, hf⟩ := obind hf
  refine r_lconst (pc := 0) (0 : Int64) dX6_itemsAtOrAbove_0 (by decide) ?_
  refine r_lstore_n (pc := 1) dX6_itemsAtOrAbove_1 (by decide) ?_
  change gW _ _ _ [some (.ref a0), some (.long a1), none, some (.long (0 : Int64)), none, none] _ _ _ _ _ _
  refine r_iconst (pc := 2) (0 : Int32) dX6_itemsAtOrAbove_2 (by decide) ?_
  refine r_istore (pc := 3) dX6_itemsAtOrAbove_3 (by decide) ?_
  change gW _ _ _ [some (.ref a0), some (.long a1), none, some (.long (0 : Int64)), none, some (.int (0 : Int32))] _ _ _ _ _ _
  replace hf := obind hf
  obtain ⟨r17, e18, hf⟩ := hf
  refine gW.weak (ls' := [some (.ref a0), some (.long a1), none, some (.long (0 : Int64)), none, some (.int (0 : Int32))]) (by simp [gle]) ?_
  refine g_iter (L := L_X6_itemsAtOrAbove_5 a0 a1 S) (s := s_X6_itemsAtOrAbove_5 a0 a1 S) (K := K_X6_itemsAtOrAbove_5 X Q _ _ a0 a1 S) (W_X6_itemsAtOrAbove_5 a0 a1 S) fu ((0 : Int64), (0 : Int32)) _ e18 ?_
  show gW _ _ 56 [some (.ref a0), some (.long a1), none, some (.long r17), none, none] [] S.1 S.2 _ _ _
  refine r_lload_n (pc := 56) dX6_itemsAtOrAbove_56 rfl ?_
  refine r_lreturn (pc := 57) dX6_itemsAtOrAbove_57 rfl ?_
  cases hf
  exact hk
def F_X8_countAdded (S : pS) (a0 : Nat) : Option (Int32) := (oF S a0 8).bind fun _ => (oGI S a0 8 9).bind fun x1 => some x1
set_option maxRecDepth 100000 in
set_option maxHeartbeats 4000000 in
theorem C_X8_countAdded {X : pX} {Q : pO → Nat → pF → Prop} (S : pS) (a0 : Nat) (r : Int32) (hf : F_X8_countAdded S a0 = some r) (hk : Q (.inl (some (.int r))) S.1 S.2) : gC X mX8_countAdded [.ref a0] S.1 S.2 Q 0 0 := by
  refine gC_of (by decide) (Nat.le_of_ble_eq_true rfl) rfl ?_
  change gW _ _ _ [some (.ref a0)] _ _ _ _ _ _
  unfold F_X8_countAdded at hf
  obtain ⟨_, _, hf⟩ := obind hf
  refine r_aload_n (pc := 0) dX8_countAdded_0 rfl ?_
  replace hf := obind hf
  obtain ⟨x1, e2, hf⟩ := hf
  refine q_getI (pc := 1) dX8_countAdded_1 gX8_41 e2 ?_
  refine r_ireturn (pc := 4) .int dX8_countAdded_4 rfl rfl ?_
  cases hf
  exact hk
def F_X6_reasonAgainstNew (S : pS) (a0 : Nat) (a1 : Nat) (a2 : Int32) : Option (Int32) := (oF S a0 6).bind fun _ => (F_X8_countAdded S a1).bind fun q1 => if (60 : Int32) ≤ q1 then (some (1 : Int32)) else ((F_X8_childCount S a1 a2).bind fun q3 => if q3 < (12 : Int32) then ((oGA S a0 6 6).bind fun x5 => (oAI S x5 .int (0 : Int32)).bind fun x7 => (oGA S a0 6 4).bind fun x9 => (oAI S x9 .int a2).bind fun x11 => if (x7 + x11) ≤ (300 : Int32) then (some (0 : Int32)) else (some (4 : Int32))) else (some (1 : Int32)))
set_option maxRecDepth 100000 in
set_option maxHeartbeats 4000000 in
theorem C_X6_reasonAgainstNew {X : pX} {Q : pO → Nat → pF → Prop} (S : pS) (a0 : Nat) (a1 : Nat) (a2 : Int32) (r : Int32) (hf : F_X6_reasonAgainstNew S a0 a1 a2 = some r) (hk : Q (.inl (some (.int r))) S.1 S.2) : gC X mX6_reasonAgainstNew [.ref a0, .ref a1, .int a2] S.1 S.2 Q 0 0 := by
  refine gC_of (by decide) (Nat.le_of_ble_eq_true rfl) rfl ?_
  change gW _ _ _ [some (.ref a0), some (.ref a1), some (.int a2)] _ _ _ _ _ _
  unfold F_X6_reasonAgainstNew at hf
  obtain ⟨_, _, hf⟩ := obind hf
  refine r_aload_n (pc := 0) dX6_reasonAgainstNew_0 rfl ?_
  replace hf := obind hf
  obtain ⟨q1, e2, hf⟩ := hf
  refine q_callV (pc := 1) (v := some (.int q1)) (S' := S) mX8_countAdded 8 [] dX6_reasonAgainstNew_1 kX6_78 fX8_countAdded iX8_countAdded ⟨by decide, by decide⟩ rfl rfl rfl (Nat.le_of_ble_eq_true rfl) (og e2) (mc1 := 0) (ms1 := 0) (mc2 := 0) (ms2 := 0) (by decide) (by decide) (C_X8_countAdded S a1 q1 e2 (qR_mk _ _)) ?_
  change gW _ _ _ _ (.int q1 :: _) _ _ _ _ _
  refine r_bipush (pc := 4) (60 : Int32) dX6_reasonAgainstNew_4 (by decide) ?_
  refine r_icmp_ge (pc := 6) 19 dX6_reasonAgainstNew_6 (by decide) (fun hc => ?_) (fun hc => ?_)
  · rw [if_pos hc] at hf
    refine r_iconst (pc := 19) (1 : Int32) dX6_reasonAgainstNew_19 (by decide) ?_
    refine r_ireturn (pc := 20) .int dX6_reasonAgainstNew_20 rfl rfl ?_
    cases hf
    exact hk
  · rw [if_neg hc] at hf
    refine r_aload_n (pc := 9) dX6_reasonAgainstNew_9 rfl ?_
    refine r_iload_n (pc := 10) dX6_reasonAgainstNew_10 rfl ?_
    replace hf := obind hf
    obtain ⟨q3, e4, hf⟩ := hf
    refine q_callV (pc := 11) (v := some (.int q3)) (S' := S) mX8_childCount 8 [.int a2] dX6_reasonAgainstNew_11 kX6_57 fX8_childCount iX8_childCount ⟨by decide, by decide⟩ rfl rfl rfl (Nat.le_of_ble_eq_true rfl) (og e4) (mc1 := 0) (ms1 := 0) (mc2 := 0) (ms2 := 0) (by decide) (by decide) (C_X8_childCount S a1 a2 q3 e4 (qR_mk _ _)) ?_
    change gW _ _ _ _ (.int q3 :: _) _ _ _ _ _
    refine r_bipush (pc := 14) (12 : Int32) dX6_reasonAgainstNew_14 (by decide) ?_
    refine r_icmp_lt (pc := 16) 21 dX6_reasonAgainstNew_16 (by decide) (fun hc => ?_) (fun hc => ?_)
    · rw [if_pos hc] at hf
      refine r_aload_n (pc := 21) dX6_reasonAgainstNew_21 rfl ?_
      replace hf := obind hf
      obtain ⟨x5, e6, hf⟩ := hf
      refine q_getA (pc := 22) dX6_reasonAgainstNew_22 gX6_31 e6 ?_
      refine r_iconst (pc := 25) (0 : Int32) dX6_reasonAgainstNew_25 (by decide) ?_
      replace hf := obind hf
      obtain ⟨x7, e8, hf⟩ := hf
      refine q_iald (pc := 26) dX6_reasonAgainstNew_26 e8 ?_
      refine r_aload_n (pc := 27) dX6_reasonAgainstNew_27 rfl ?_
      replace hf := obind hf
      obtain ⟨x9, e10, hf⟩ := hf
      refine q_getA (pc := 28) dX6_reasonAgainstNew_28 gX6_25 e10 ?_
      refine r_iload_n (pc := 31) dX6_reasonAgainstNew_31 rfl ?_
      replace hf := obind hf
      obtain ⟨x11, e12, hf⟩ := hf
      refine q_iald (pc := 32) dX6_reasonAgainstNew_32 e12 ?_
      refine r_iadd (pc := 33) dX6_reasonAgainstNew_33 ?_
      refine r_sipush (pc := 34) (300 : Int32) dX6_reasonAgainstNew_34 (by decide) ?_
      refine r_icmp_le (pc := 37) 44 dX6_reasonAgainstNew_37 (by decide) (fun hc => ?_) (fun hc => ?_)
      · rw [if_pos hc] at hf
        refine r_iconst (pc := 44) (0 : Int32) dX6_reasonAgainstNew_44 (by decide) ?_
        refine r_ireturn (pc := 45) .int dX6_reasonAgainstNew_45 rfl rfl ?_
        cases hf
        exact hk
      · rw [if_neg hc] at hf
        refine r_iconst (pc := 40) (4 : Int32) dX6_reasonAgainstNew_40 (by decide) ?_
        refine r_goto (pc := 41) 45 dX6_reasonAgainstNew_41 (by decide) ?_
        refine r_ireturn (pc := 45) .int dX6_reasonAgainstNew_45 rfl rfl ?_
        cases hf
        exact hk
    · rw [if_neg hc] at hf
      refine r_iconst (pc := 19) (1 : Int32) dX6_reasonAgainstNew_19 (by decide) ?_
      refine r_ireturn (pc := 20) .int dX6_reasonAgainstNew_20 rfl rfl ?_
      cases hf
      exact hk
abbrev L_X8_hasChild_2 (l0 : Nat) (l1 : Int32) (l2 : Int32) (S : pS) : Int32 → List (Option Value) := fun a => [some (.ref l0), some (.int l1), some (.int l2), some (.int a)]
abbrev s_X8_hasChild_2 (l0 : Nat) (l1 : Int32) (l2 : Int32) (S : pS) : Int32 → pS := fun a => S
abbrev K_X8_hasChild_2 (X : pX) (Q : pO → Nat → pF → Prop) (mc ms : Nat) (l0 : Nat) (l1 : Int32) (l2 : Int32) (S : pS) : (Unit) ⊕ (Unit) → Prop := (Sum.elim (fun b => gW X mX8_hasChild 22 [some (.ref l0), some (.int l1), some (.int l2), none] [] S.1 S.2 Q mc ms) (fun b => gW X mX8_hasChild 30 [some (.ref l0), some (.int l1), some (.int l2), none] [] S.1 S.2 Q mc ms))
def F_X8_hasChild_2 (l0 : Nat) (l1 : Int32) (l2 : Int32) (S : pS) : Int32 → Option ((Int32) ⊕ ((Unit) ⊕ (Unit))) := fun a => (oGA S l0 8 0).bind fun x1 => (oAI S x1 .int l1).bind fun x3 => if x3 ≤ a then (some (.inr (.inr ()))) else ((F_X8_childAt S l0 l1 a).bind fun q5 => if ¬ q5 = l2 then (some (.inl (a + (1 : Int32)))) else (some (.inr (.inl ()))))
set_option maxRecDepth 100000 in
set_option maxHeartbeats 4000000 in
theorem W_X8_hasChild_2 {X : pX} {Q : pO → Nat → pF → Prop} {mc ms : Nat} (l0 : Nat) (l1 : Int32) (l2 : Int32) (S : pS) : ∀ (a : Int32) (r : (Int32) ⊕ ((Unit) ⊕ (Unit))), F_X8_hasChild_2 l0 l1 l2 S a = some r → Sum.elim (fun a' => gW X mX8_hasChild 2 (L_X8_hasChild_2 l0 l1 l2 S a') [] (s_X8_hasChild_2 l0 l1 l2 S a').1 (s_X8_hasChild_2 l0 l1 l2 S a').2 Q mc ms) (K_X8_hasChild_2 X Q mc ms l0 l1 l2 S) r → gW X mX8_hasChild 2 (L_X8_hasChild_2 l0 l1 l2 S a) [] (s_X8_hasChild_2 l0 l1 l2 S a).1 (s_X8_hasChild_2 l0 l1 l2 S a).2 Q mc ms := by
  intro l3 r hf hk
  unfold F_X8_hasChild_2 at hf
  try dsimp only at hf
  change gW _ _ _ [some (.ref l0), some (.int l1), some (.int l2), some (.int l3)] _ S.1 S.2 _ _ _
  refine r_iload_n (pc := 2) dX8_hasChild_2 rfl ?_
  refine r_aload_n (pc := 3) dX8_hasChild_3 rfl ?_
  replace hf := obind hf
  obtain ⟨x1, e2, hf⟩ := hf
  refine q_getA (pc := 4) dX8_hasChild_4 gX8_9 e2 ?_
  refine r_iload_n (pc := 7) dX8_hasChild_7 rfl ?_
  replace hf := obind hf
  obtain ⟨x3, e4, hf⟩ := hf
  refine q_iald (pc := 8) dX8_hasChild_8 e4 ?_
  refine r_icmp_ge (pc := 9) 30 dX8_hasChild_9 (by decide) (fun hc => ?_) (fun hc => ?_)
  · rw [if_pos hc] at hf
    cases hf
    exact gW.weak (by simp [gle]) hk
  · rw [if_neg hc] at hf
    refine r_aload_n (pc := 12) dX8_hasChild_12 rfl ?_
    refine r_iload_n (pc := 13) dX8_hasChild_13 rfl ?_
    refine r_iload_n (pc := 14) dX8_hasChild_14 rfl ?_
    replace hf := obind hf
    obtain ⟨q5, e6, hf⟩ := hf
    refine q_callV (pc := 15) (v := some (.int q5)) (S' := S) mX8_childAt 8 [.int l1, .int l3] dX8_hasChild_15 kX8_71 fX8_childAt iX8_childAt ⟨by decide, by decide⟩ rfl rfl rfl (Nat.le_of_ble_eq_true rfl) (og e6) (mc1 := 0) (ms1 := 0) (mc2 := mc) (ms2 := ms) (by omega) (by omega) (C_X8_childAt S l0 l1 l3 q5 e6 (qR_mk _ _)) ?_
    change gW _ _ _ _ (.int q5 :: _) _ _ _ _ _
    refine r_iload_n (pc := 18) dX8_hasChild_18 rfl ?_
    refine r_icmp_ne (pc := 19) 24 dX8_hasChild_19 (by decide) (fun hc => ?_) (fun hc => ?_)
    · rw [if_pos hc] at hf
      refine r_iinc (pc := 24) dX8_hasChild_24 rfl (by decide) ?_
      change gW _ _ _ [some (.ref l0), some (.int l1), some (.int l2), some (.int (l3 + (1 : Int32)))] _ _ _ _ _ _
      refine r_goto (pc := 27) 2 dX8_hasChild_27 (by decide) ?_
      cases hf
      exact gW.weak (by simp [gle]) hk
    · rw [if_neg hc] at hf
      cases hf
      exact gW.weak (by simp [gle]) hk
def F_X8_hasChild (S : pS) (a0 : Nat) (a1 : Int32) (a2 : Int32) : Option (Int32) := (oF S a0 8).bind fun _ => (iter (F_X8_hasChild_2 a0 a1 a2 S) fu (0 : Int32)).bind fun r7 => Sum.elim (fun q9 => some (1 : Int32)) (fun q9 => some (0 : Int32)) r7
set_option maxRecDepth 100000 in
set_option maxHeartbeats 4000000 in
theorem C_X8_hasChild {X : pX} {Q : pO → Nat → pF → Prop} (S : pS) (a0 : Nat) (a1 : Int32) (a2 : Int32) (r : Int32) (hf : F_X8_hasChild S a0 a1 a2 = some r) (hk : Q (.inl (some (.int r))) S.1 S.2) : gC X mX8_hasChild [.ref a0, .int a1, .int a2] S.1 S.2 Q 0 0 := by
  refine gC_of (by decide) (Nat.le_of_ble_eq_true rfl) rfl ?_
  change gW _ _ _ [some (.ref a0), some (.int a1), some (.int a2), none] _ _ _ _ _ _
  unfold F_X8_hasChild at hf
  obtain ⟨_, _, hf⟩ := obind hf
  refine r_iconst (pc := 0) (0 : Int32) dX8_hasChild_0 (by decide) ?_
  refine r_istore_n (pc := 1) dX8_hasChild_1 (by decide) ?_
  change gW _ _ _ [some (.ref a0), some (.int a1), some (.int a2), some (.int (0 : Int32))] _ _ _ _ _ _
  replace hf := obind hf
  obtain ⟨r7, e8, hf⟩ := hf
  refine gW.weak (ls' := [some (.ref a0), some (.int a1), some (.int a2), some (.int (0 : Int32))]) (by simp [gle]) ?_
  refine g_iter (L := L_X8_hasChild_2 a0 a1 a2 S) (s := s_X8_hasChild_2 a0 a1 a2 S) (K := K_X8_hasChild_2 X Q _ _ a0 a1 a2 S) (W_X8_hasChild_2 a0 a1 a2 S) fu (0 : Int32) _ e8 ?_
  rcases r7 with q9 | q9
  · simp only [Sum.elim_inl, Sum.elim_inr] at hf
    show gW _ _ 22 [some (.ref a0), some (.int a1), some (.int a2), none] [] S.1 S.2 _ _ _
    refine r_iconst (pc := 22) (1 : Int32) dX8_hasChild_22 (by decide) ?_
    refine r_ireturn (pc := 23) .boolean dX8_hasChild_23 rfl rfl ?_
    cases hf
    exact hk
  · simp only [Sum.elim_inl, Sum.elim_inr] at hf
    show gW _ _ 30 [some (.ref a0), some (.int a1), some (.int a2), none] [] S.1 S.2 _ _ _
    refine r_iconst (pc := 30) (0 : Int32) dX8_hasChild_30 (by decide) ?_
    refine r_ireturn (pc := 31) .boolean dX8_hasChild_31 rfl rfl ?_
    cases hf
    exact hk
def F_X6_reasonAgainst (S : pS) (a0 : Nat) (a1 : Nat) (a2 : Int32) (a3 : Int32) : Option (Int32) := (oF S a0 6).bind fun _ => (F_X8_childCount S a1 a3).bind fun q1 => if q1 < (12 : Int32) then ((F_X8_hasChild S a1 a3 a2).bind fun q3 => if q3 = 0 then ((oGA S a0 6 7).bind fun x5 => (oAJ S x5 .long a2).bind fun x7 => (F_X9_contains S x7 a3).bind fun q9 => if q9 = 0 then ((oGA S a0 6 4).bind fun x11 => (oAI S x11 .int a3).bind fun x13 => (oGA S a0 6 6).bind fun x15 => (oAI S x15 .int a2).bind fun x17 => (oGA S a0 6 6).bind fun x19 => (oAI S x19 .int (0 : Int32)).bind fun x21 => if (x21 + (x13 * ((1 : Int32) + x17))) ≤ (300 : Int32) then (some (0 : Int32)) else (some (4 : Int32))) else (some (3 : Int32))) else (some (2 : Int32))) else (some (1 : Int32))
set_option maxRecDepth 100000 in
set_option maxHeartbeats 4000000 in
theorem C_X6_reasonAgainst {X : pX} {Q : pO → Nat → pF → Prop} (S : pS) (a0 : Nat) (a1 : Nat) (a2 : Int32) (a3 : Int32) (r : Int32) (hf : F_X6_reasonAgainst S a0 a1 a2 a3 = some r) (hk : Q (.inl (some (.int r))) S.1 S.2) : gC X mX6_reasonAgainst [.ref a0, .ref a1, .int a2, .int a3] S.1 S.2 Q 0 0 := by
  refine gC_of (by decide) (Nat.le_of_ble_eq_true rfl) rfl ?_
  change gW _ _ _ [some (.ref a0), some (.ref a1), some (.int a2), some (.int a3), none] _ _ _ _ _ _
  unfold F_X6_reasonAgainst at hf
  obtain ⟨_, _, hf⟩ := obind hf
  refine r_aload_n (pc := 0) dX6_reasonAgainst_0 rfl ?_
  refine r_iload_n (pc := 1) dX6_reasonAgainst_1 rfl ?_
  replace hf := obind hf
  obtain ⟨q1, e2, hf⟩ := hf
  refine q_callV (pc := 2) (v := some (.int q1)) (S' := S) mX8_childCount 8 [.int a3] dX6_reasonAgainst_2 kX6_57 fX8_childCount iX8_childCount ⟨by decide, by decide⟩ rfl rfl rfl (Nat.le_of_ble_eq_true rfl) (og e2) (mc1 := 0) (ms1 := 0) (mc2 := 0) (ms2 := 0) (by decide) (by decide) (C_X8_childCount S a1 a3 q1 e2 (qR_mk _ _)) ?_
  change gW _ _ _ _ (.int q1 :: _) _ _ _ _ _
  refine r_bipush (pc := 5) (12 : Int32) dX6_reasonAgainst_5 (by decide) ?_
  refine r_icmp_lt (pc := 7) 12 dX6_reasonAgainst_7 (by decide) (fun hc => ?_) (fun hc => ?_)
  · rw [if_pos hc] at hf
    refine r_aload_n (pc := 12) dX6_reasonAgainst_12 rfl ?_
    refine r_iload_n (pc := 13) dX6_reasonAgainst_13 rfl ?_
    refine r_iload_n (pc := 14) dX6_reasonAgainst_14 rfl ?_
    replace hf := obind hf
    obtain ⟨q3, e4, hf⟩ := hf
    refine q_callV (pc := 15) (v := some (.int q3)) (S' := S) mX8_hasChild 8 [.int a3, .int a2] dX6_reasonAgainst_15 kX6_82 fX8_hasChild iX8_hasChild ⟨by decide, by decide⟩ rfl rfl rfl (Nat.le_of_ble_eq_true rfl) (og e4) (mc1 := 0) (ms1 := 0) (mc2 := 0) (ms2 := 0) (by decide) (by decide) (C_X8_hasChild S a1 a3 a2 q3 e4 (qR_mk _ _)) ?_
    change gW _ _ _ _ (.int q3 :: _) _ _ _ _ _
    refine r_if_eq (pc := 18) 23 dX6_reasonAgainst_18 (by decide) (fun hc => ?_) (fun hc => ?_)
    · rw [if_pos hc] at hf
      refine r_aload_n (pc := 23) dX6_reasonAgainst_23 rfl ?_
      replace hf := obind hf
      obtain ⟨x5, e6, hf⟩ := hf
      refine q_getA (pc := 24) dX6_reasonAgainst_24 gX6_34 e6 ?_
      refine r_iload_n (pc := 27) dX6_reasonAgainst_27 rfl ?_
      replace hf := obind hf
      obtain ⟨x7, e8, hf⟩ := hf
      refine q_lald (pc := 28) dX6_reasonAgainst_28 e8 ?_
      refine r_iload_n (pc := 29) dX6_reasonAgainst_29 rfl ?_
      replace hf := obind hf
      obtain ⟨q9, e10, hf⟩ := hf
      refine q_callSN (pc := 30) (v := some (.int q9)) (S' := S) mX9_contains [.long x7, .int a3] dX6_reasonAgainst_30 kX6_86 fX9_contains sX9_contains ⟨by decide, by decide⟩ rfl rfl (Nat.le_of_ble_eq_true rfl) (mc1 := 0) (ms1 := 0) (mc2 := 0) (ms2 := 0) (by decide) (by decide) (C_X9_contains S x7 a3 q9 e10 (qR_mk _ _)) ?_
      change gW _ _ _ _ (.int q9 :: _) _ _ _ _ _
      refine r_if_eq (pc := 33) 38 dX6_reasonAgainst_33 (by decide) (fun hc => ?_) (fun hc => ?_)
      · rw [if_pos hc] at hf
        refine r_aload_n (pc := 38) dX6_reasonAgainst_38 rfl ?_
        replace hf := obind hf
        obtain ⟨x11, e12, hf⟩ := hf
        refine q_getA (pc := 39) dX6_reasonAgainst_39 gX6_25 e12 ?_
        refine r_iload_n (pc := 42) dX6_reasonAgainst_42 rfl ?_
        replace hf := obind hf
        obtain ⟨x13, e14, hf⟩ := hf
        refine q_iald (pc := 43) dX6_reasonAgainst_43 e14 ?_
        refine r_iconst (pc := 44) (1 : Int32) dX6_reasonAgainst_44 (by decide) ?_
        refine r_aload_n (pc := 45) dX6_reasonAgainst_45 rfl ?_
        replace hf := obind hf
        obtain ⟨x15, e16, hf⟩ := hf
        refine q_getA (pc := 46) dX6_reasonAgainst_46 gX6_31 e16 ?_
        refine r_iload_n (pc := 49) dX6_reasonAgainst_49 rfl ?_
        replace hf := obind hf
        obtain ⟨x17, e18, hf⟩ := hf
        refine q_iald (pc := 50) dX6_reasonAgainst_50 e18 ?_
        refine r_iadd (pc := 51) dX6_reasonAgainst_51 ?_
        refine r_imul (pc := 52) dX6_reasonAgainst_52 ?_
        refine r_istore (pc := 53) dX6_reasonAgainst_53 (by decide) ?_
        change gW _ _ _ [some (.ref a0), some (.ref a1), some (.int a2), some (.int a3), some (.int (x13 * ((1 : Int32) + x17)))] _ _ _ _ _ _
        refine r_aload_n (pc := 55) dX6_reasonAgainst_55 rfl ?_
        replace hf := obind hf
        obtain ⟨x19, e20, hf⟩ := hf
        refine q_getA (pc := 56) dX6_reasonAgainst_56 gX6_31 e20 ?_
        refine r_iconst (pc := 59) (0 : Int32) dX6_reasonAgainst_59 (by decide) ?_
        replace hf := obind hf
        obtain ⟨x21, e22, hf⟩ := hf
        refine q_iald (pc := 60) dX6_reasonAgainst_60 e22 ?_
        refine r_iload (pc := 61) dX6_reasonAgainst_61 rfl ?_
        refine r_iadd (pc := 63) dX6_reasonAgainst_63 ?_
        refine r_sipush (pc := 64) (300 : Int32) dX6_reasonAgainst_64 (by decide) ?_
        refine r_icmp_le (pc := 67) 74 dX6_reasonAgainst_67 (by decide) (fun hc => ?_) (fun hc => ?_)
        · rw [if_pos hc] at hf
          refine r_iconst (pc := 74) (0 : Int32) dX6_reasonAgainst_74 (by decide) ?_
          refine r_ireturn (pc := 75) .int dX6_reasonAgainst_75 rfl rfl ?_
          cases hf
          exact hk
        · rw [if_neg hc] at hf
          refine r_iconst (pc := 70) (4 : Int32) dX6_reasonAgainst_70 (by decide) ?_
          refine r_goto (pc := 71) 75 dX6_reasonAgainst_71 (by decide) ?_
          refine r_ireturn (pc := 75) .int dX6_reasonAgainst_75 rfl rfl ?_
          cases hf
          exact hk
      · rw [if_neg hc] at hf
        refine r_iconst (pc := 36) (3 : Int32) dX6_reasonAgainst_36 (by decide) ?_
        refine r_ireturn (pc := 37) .int dX6_reasonAgainst_37 rfl rfl ?_
        cases hf
        exact hk
    · rw [if_neg hc] at hf
      refine r_iconst (pc := 21) (2 : Int32) dX6_reasonAgainst_21 (by decide) ?_
      refine r_ireturn (pc := 22) .int dX6_reasonAgainst_22 rfl rfl ?_
      cases hf
      exact hk
  · rw [if_neg hc] at hf
    refine r_iconst (pc := 10) (1 : Int32) dX6_reasonAgainst_10 (by decide) ?_
    refine r_ireturn (pc := 11) .int dX6_reasonAgainst_11 rfl rfl ?_
    cases hf
    exact hk
def F_J13_bitCount_95d88 (S : pS) (a0 : Int64) : Option (Int32) := some ((((((((((a0 - (((a0.toUInt64 >>> ((1 : Int32).toInt64.toUInt64 &&& Int64.toUInt64 63)).toInt64) &&& (6148914691236517205 : Int64))) &&& (3689348814741910323 : Int64)) + ((((a0 - (((a0.toUInt64 >>> ((1 : Int32).toInt64.toUInt64 &&& Int64.toUInt64 63)).toInt64) &&& (6148914691236517205 : Int64))).toUInt64 >>> ((2 : Int32).toInt64.toUInt64 &&& Int64.toUInt64 63)).toInt64) &&& (3689348814741910323 : Int64))) + (((((a0 - (((a0.toUInt64 >>> ((1 : Int32).toInt64.toUInt64 &&& Int64.toUInt64 63)).toInt64) &&& (6148914691236517205 : Int64))) &&& (3689348814741910323 : Int64)) + ((((a0 - (((a0.toUInt64 >>> ((1 : Int32).toInt64.toUInt64 &&& Int64.toUInt64 63)).toInt64) &&& (6148914691236517205 : Int64))).toUInt64 >>> ((2 : Int32).toInt64.toUInt64 &&& Int64.toUInt64 63)).toInt64) &&& (3689348814741910323 : Int64))).toUInt64 >>> ((4 : Int32).toInt64.toUInt64 &&& Int64.toUInt64 63)).toInt64)) &&& (1085102592571150095 : Int64)) + (((((((a0 - (((a0.toUInt64 >>> ((1 : Int32).toInt64.toUInt64 &&& Int64.toUInt64 63)).toInt64) &&& (6148914691236517205 : Int64))) &&& (3689348814741910323 : Int64)) + ((((a0 - (((a0.toUInt64 >>> ((1 : Int32).toInt64.toUInt64 &&& Int64.toUInt64 63)).toInt64) &&& (6148914691236517205 : Int64))).toUInt64 >>> ((2 : Int32).toInt64.toUInt64 &&& Int64.toUInt64 63)).toInt64) &&& (3689348814741910323 : Int64))) + (((((a0 - (((a0.toUInt64 >>> ((1 : Int32).toInt64.toUInt64 &&& Int64.toUInt64 63)).toInt64) &&& (6148914691236517205 : Int64))) &&& (3689348814741910323 : Int64)) + ((((a0 - (((a0.toUInt64 >>> ((1 : Int32).toInt64.toUInt64 &&& Int64.toUInt64 63)).toInt64) &&& (6148914691236517205 : Int64))).toUInt64 >>> ((2 : Int32).toInt64.toUInt64 &&& Int64.toUInt64 63)).toInt64) &&& (3689348814741910323 : Int64))).toUInt64 >>> ((4 : Int32).toInt64.toUInt64 &&& Int64.toUInt64 63)).toInt64)) &&& (1085102592571150095 : Int64)).toUInt64 >>> ((8 : Int32).toInt64.toUInt64 &&& Int64.toUInt64 63)).toInt64)) + ((((((((a0 - (((a0.toUInt64 >>> ((1 : Int32).toInt64.toUInt64 &&& Int64.toUInt64 63)).toInt64) &&& (6148914691236517205 : Int64))) &&& (3689348814741910323 : Int64)) + ((((a0 - (((a0.toUInt64 >>> ((1 : Int32).toInt64.toUInt64 &&& Int64.toUInt64 63)).toInt64) &&& (6148914691236517205 : Int64))).toUInt64 >>> ((2 : Int32).toInt64.toUInt64 &&& Int64.toUInt64 63)).toInt64) &&& (3689348814741910323 : Int64))) + (((((a0 - (((a0.toUInt64 >>> ((1 : Int32).toInt64.toUInt64 &&& Int64.toUInt64 63)).toInt64) &&& (6148914691236517205 : Int64))) &&& (3689348814741910323 : Int64)) + ((((a0 - (((a0.toUInt64 >>> ((1 : Int32).toInt64.toUInt64 &&& Int64.toUInt64 63)).toInt64) &&& (6148914691236517205 : Int64))).toUInt64 >>> ((2 : Int32).toInt64.toUInt64 &&& Int64.toUInt64 63)).toInt64) &&& (3689348814741910323 : Int64))).toUInt64 >>> ((4 : Int32).toInt64.toUInt64 &&& Int64.toUInt64 63)).toInt64)) &&& (1085102592571150095 : Int64)) + (((((((a0 - (((a0.toUInt64 >>> ((1 : Int32).toInt64.toUInt64 &&& Int64.toUInt64 63)).toInt64) &&& (6148914691236517205 : Int64))) &&& (3689348814741910323 : Int64)) + ((((a0 - (((a0.toUInt64 >>> ((1 : Int32).toInt64.toUInt64 &&& Int64.toUInt64 63)).toInt64) &&& (6148914691236517205 : Int64))).toUInt64 >>> ((2 : Int32).toInt64.toUInt64 &&& Int64.toUInt64 63)).toInt64) &&& (3689348814741910323 : Int64))) + (((((a0 - (((a0.toUInt64 >>> ((1 : Int32).toInt64.toUInt64 &&& Int64.toUInt64 63)).toInt64) &&& (6148914691236517205 : Int64))) &&& (3689348814741910323 : Int64)) + ((((a0 - (((a0.toUInt64 >>> ((1 : Int32).toInt64.toUInt64 &&& Int64.toUInt64 63)).toInt64) &&& (6148914691236517205 : Int64))).toUInt64 >>> ((2 : Int32).toInt64.toUInt64 &&& Int64.toUInt64 63)).toInt64) &&& (3689348814741910323 : Int64))).toUInt64 >>> ((4 : Int32).toInt64.toUInt64 &&& Int64.toUInt64 63)).toInt64)) &&& (1085102592571150095 : Int64)).toUInt64 >>> ((8 : Int32).toInt64.toUInt64 &&& Int64.toUInt64 63)).toInt64)).toUInt64 >>> ((16 : Int32).toInt64.toUInt64 &&& Int64.toUInt64 63)).toInt64)) + (((((((((a0 - (((a0.toUInt64 >>> ((1 : Int32).toInt64.toUInt64 &&& Int64.toUInt64 63)).toInt64) &&& (6148914691236517205 : Int64))) &&& (3689348814741910323 : Int64)) + ((((a0 - (((a0.toUInt64 >>> ((1 : Int32).toInt64.toUInt64 &&& Int64.toUInt64 63)).toInt64) &&& (6148914691236517205 : Int64))).toUInt64 >>> ((2 : Int32).toInt64.toUInt64 &&& Int64.toUInt64 63)).toInt64) &&& (3689348814741910323 : Int64))) + (((((a0 - (((a0.toUInt64 >>> ((1 : Int32).toInt64.toUInt64 &&& Int64.toUInt64 63)).toInt64) &&& (6148914691236517205 : Int64))) &&& (3689348814741910323 : Int64)) + ((((a0 - (((a0.toUInt64 >>> ((1 : Int32).toInt64.toUInt64 &&& Int64.toUInt64 63)).toInt64) &&& (6148914691236517205 : Int64))).toUInt64 >>> ((2 : Int32).toInt64.toUInt64 &&& Int64.toUInt64 63)).toInt64) &&& (3689348814741910323 : Int64))).toUInt64 >>> ((4 : Int32).toInt64.toUInt64 &&& Int64.toUInt64 63)).toInt64)) &&& (1085102592571150095 : Int64)) + (((((((a0 - (((a0.toUInt64 >>> ((1 : Int32).toInt64.toUInt64 &&& Int64.toUInt64 63)).toInt64) &&& (6148914691236517205 : Int64))) &&& (3689348814741910323 : Int64)) + ((((a0 - (((a0.toUInt64 >>> ((1 : Int32).toInt64.toUInt64 &&& Int64.toUInt64 63)).toInt64) &&& (6148914691236517205 : Int64))).toUInt64 >>> ((2 : Int32).toInt64.toUInt64 &&& Int64.toUInt64 63)).toInt64) &&& (3689348814741910323 : Int64))) + (((((a0 - (((a0.toUInt64 >>> ((1 : Int32).toInt64.toUInt64 &&& Int64.toUInt64 63)).toInt64) &&& (6148914691236517205 : Int64))) &&& (3689348814741910323 : Int64)) + ((((a0 - (((a0.toUInt64 >>> ((1 : Int32).toInt64.toUInt64 &&& Int64.toUInt64 63)).toInt64) &&& (6148914691236517205 : Int64))).toUInt64 >>> ((2 : Int32).toInt64.toUInt64 &&& Int64.toUInt64 63)).toInt64) &&& (3689348814741910323 : Int64))).toUInt64 >>> ((4 : Int32).toInt64.toUInt64 &&& Int64.toUInt64 63)).toInt64)) &&& (1085102592571150095 : Int64)).toUInt64 >>> ((8 : Int32).toInt64.toUInt64 &&& Int64.toUInt64 63)).toInt64)) + ((((((((a0 - (((a0.toUInt64 >>> ((1 : Int32).toInt64.toUInt64 &&& Int64.toUInt64 63)).toInt64) &&& (6148914691236517205 : Int64))) &&& (3689348814741910323 : Int64)) + ((((a0 - (((a0.toUInt64 >>> ((1 : Int32).toInt64.toUInt64 &&& Int64.toUInt64 63)).toInt64) &&& (6148914691236517205 : Int64))).toUInt64 >>> ((2 : Int32).toInt64.toUInt64 &&& Int64.toUInt64 63)).toInt64) &&& (3689348814741910323 : Int64))) + (((((a0 - (((a0.toUInt64 >>> ((1 : Int32).toInt64.toUInt64 &&& Int64.toUInt64 63)).toInt64) &&& (6148914691236517205 : Int64))) &&& (3689348814741910323 : Int64)) + ((((a0 - (((a0.toUInt64 >>> ((1 : Int32).toInt64.toUInt64 &&& Int64.toUInt64 63)).toInt64) &&& (6148914691236517205 : Int64))).toUInt64 >>> ((2 : Int32).toInt64.toUInt64 &&& Int64.toUInt64 63)).toInt64) &&& (3689348814741910323 : Int64))).toUInt64 >>> ((4 : Int32).toInt64.toUInt64 &&& Int64.toUInt64 63)).toInt64)) &&& (1085102592571150095 : Int64)) + (((((((a0 - (((a0.toUInt64 >>> ((1 : Int32).toInt64.toUInt64 &&& Int64.toUInt64 63)).toInt64) &&& (6148914691236517205 : Int64))) &&& (3689348814741910323 : Int64)) + ((((a0 - (((a0.toUInt64 >>> ((1 : Int32).toInt64.toUInt64 &&& Int64.toUInt64 63)).toInt64) &&& (6148914691236517205 : Int64))).toUInt64 >>> ((2 : Int32).toInt64.toUInt64 &&& Int64.toUInt64 63)).toInt64) &&& (3689348814741910323 : Int64))) + (((((a0 - (((a0.toUInt64 >>> ((1 : Int32).toInt64.toUInt64 &&& Int64.toUInt64 63)).toInt64) &&& (6148914691236517205 : Int64))) &&& (3689348814741910323 : Int64)) + ((((a0 - (((a0.toUInt64 >>> ((1 : Int32).toInt64.toUInt64 &&& Int64.toUInt64 63)).toInt64) &&& (6148914691236517205 : Int64))).toUInt64 >>> ((2 : Int32).toInt64.toUInt64 &&& Int64.toUInt64 63)).toInt64) &&& (3689348814741910323 : Int64))).toUInt64 >>> ((4 : Int32).toInt64.toUInt64 &&& Int64.toUInt64 63)).toInt64)) &&& (1085102592571150095 : Int64)).toUInt64 >>> ((8 : Int32).toInt64.toUInt64 &&& Int64.toUInt64 63)).toInt64)).toUInt64 >>> ((16 : Int32).toInt64.toUInt64 &&& Int64.toUInt64 63)).toInt64)).toUInt64 >>> ((32 : Int32).toInt64.toUInt64 &&& Int64.toUInt64 63)).toInt64)).toInt32) &&& (127 : Int32))
set_option maxRecDepth 100000 in
set_option maxHeartbeats 4000000 in
theorem C_J13_bitCount_95d88 {X : pX} {Q : pO → Nat → pF → Prop} (S : pS) (a0 : Int64) (r : Int32) (hf : F_J13_bitCount_95d88 S a0 = some r) (hk : Q (.inl (some (.int r))) S.1 S.2) : gC X mJ13_bitCount_95d88 [.long a0] S.1 S.2 Q 0 0 := by
  refine gC_of (by decide) (Nat.le_of_ble_eq_true rfl) rfl ?_
  change gW _ _ _ [some (.long a0), none] _ _ _ _ _ _
  unfold F_J13_bitCount_95d88 at hf
  refine r_lload_n (pc := 0) dJ13_bitCount_95d88_0 rfl ?_
  refine r_lload_n (pc := 1) dJ13_bitCount_95d88_1 rfl ?_
  refine r_iconst (pc := 2) (1 : Int32) dJ13_bitCount_95d88_2 (by decide) ?_
  refine r_lushr (pc := 3) dJ13_bitCount_95d88_3 ?_
  refine r_ldc2 (pc := 4) dJ13_bitCount_95d88_4 kJ13_314 ?_
  refine r_land (pc := 7) dJ13_bitCount_95d88_7 ?_
  refine r_lsub (pc := 8) dJ13_bitCount_95d88_8 ?_
  refine r_lstore_n (pc := 9) dJ13_bitCount_95d88_9 (by decide) ?_
  change gW _ _ _ [some (.long (a0 - (((a0.toUInt64 >>> ((1 : Int32).toInt64.toUInt64 &&& Int64.toUInt64 63)).toInt64) &&& (6148914691236517205 : Int64)))), none] _ _ _ _ _ _
  refine r_lload_n (pc := 10) dJ13_bitCount_95d88_10 rfl ?_
  refine r_ldc2 (pc := 11) dJ13_bitCount_95d88_11 kJ13_316 ?_
  refine r_land (pc := 14) dJ13_bitCount_95d88_14 ?_
  refine r_lload_n (pc := 15) dJ13_bitCount_95d88_15 rfl ?_
  refine r_iconst (pc := 16) (2 : Int32) dJ13_bitCount_95d88_16 (by decide) ?_
  refine r_lushr (pc := 17) dJ13_bitCount_95d88_17 ?_
  refine r_ldc2 (pc := 18) dJ13_bitCount_95d88_18 kJ13_316 ?_
  refine r_land (pc := 21) dJ13_bitCount_95d88_21 ?_
  refine r_ladd (pc := 22) dJ13_bitCount_95d88_22 ?_
  refine r_lstore_n (pc := 23) dJ13_bitCount_95d88_23 (by decide) ?_
  change gW _ _ _ [some (.long (((a0 - (((a0.toUInt64 >>> ((1 : Int32).toInt64.toUInt64 &&& Int64.toUInt64 63)).toInt64) &&& (6148914691236517205 : Int64))) &&& (3689348814741910323 : Int64)) + ((((a0 - (((a0.toUInt64 >>> ((1 : Int32).toInt64.toUInt64 &&& Int64.toUInt64 63)).toInt64) &&& (6148914691236517205 : Int64))).toUInt64 >>> ((2 : Int32).toInt64.toUInt64 &&& Int64.toUInt64 63)).toInt64) &&& (3689348814741910323 : Int64)))), none] _ _ _ _ _ _
  refine r_lload_n (pc := 24) dJ13_bitCount_95d88_24 rfl ?_
  refine r_lload_n (pc := 25) dJ13_bitCount_95d88_25 rfl ?_
  refine r_iconst (pc := 26) (4 : Int32) dJ13_bitCount_95d88_26 (by decide) ?_
  refine r_lushr (pc := 27) dJ13_bitCount_95d88_27 ?_
  refine r_ladd (pc := 28) dJ13_bitCount_95d88_28 ?_
  refine r_ldc2 (pc := 29) dJ13_bitCount_95d88_29 kJ13_318 ?_
  refine r_land (pc := 32) dJ13_bitCount_95d88_32 ?_
  refine r_lstore_n (pc := 33) dJ13_bitCount_95d88_33 (by decide) ?_
  change gW _ _ _ [some (.long (((((a0 - (((a0.toUInt64 >>> ((1 : Int32).toInt64.toUInt64 &&& Int64.toUInt64 63)).toInt64) &&& (6148914691236517205 : Int64))) &&& (3689348814741910323 : Int64)) + ((((a0 - (((a0.toUInt64 >>> ((1 : Int32).toInt64.toUInt64 &&& Int64.toUInt64 63)).toInt64) &&& (6148914691236517205 : Int64))).toUInt64 >>> ((2 : Int32).toInt64.toUInt64 &&& Int64.toUInt64 63)).toInt64) &&& (3689348814741910323 : Int64))) + (((((a0 - (((a0.toUInt64 >>> ((1 : Int32).toInt64.toUInt64 &&& Int64.toUInt64 63)).toInt64) &&& (6148914691236517205 : Int64))) &&& (3689348814741910323 : Int64)) + ((((a0 - (((a0.toUInt64 >>> ((1 : Int32).toInt64.toUInt64 &&& Int64.toUInt64 63)).toInt64) &&& (6148914691236517205 : Int64))).toUInt64 >>> ((2 : Int32).toInt64.toUInt64 &&& Int64.toUInt64 63)).toInt64) &&& (3689348814741910323 : Int64))).toUInt64 >>> ((4 : Int32).toInt64.toUInt64 &&& Int64.toUInt64 63)).toInt64)) &&& (1085102592571150095 : Int64))), none] _ _ _ _ _ _
  refine r_lload_n (pc := 34) dJ13_bitCount_95d88_34 rfl ?_
  refine r_lload_n (pc := 35) dJ13_bitCount_95d88_35 rfl ?_
  refine r_bipush (pc := 36) (8 : Int32) dJ13_bitCount_95d88_36 (by decide) ?_
  refine r_lushr (pc := 38) dJ13_bitCount_95d88_38 ?_
  refine r_ladd (pc := 39) dJ13_bitCount_95d88_39 ?_
  refine r_lstore_n (pc := 40) dJ13_bitCount_95d88_40 (by decide) ?_
  change gW _ _ _ [some (.long ((((((a0 - (((a0.toUInt64 >>> ((1 : Int32).toInt64.toUInt64 &&& Int64.toUInt64 63)).toInt64) &&& (6148914691236517205 : Int64))) &&& (3689348814741910323 : Int64)) + ((((a0 - (((a0.toUInt64 >>> ((1 : Int32).toInt64.toUInt64 &&& Int64.toUInt64 63)).toInt64) &&& (6148914691236517205 : Int64))).toUInt64 >>> ((2 : Int32).toInt64.toUInt64 &&& Int64.toUInt64 63)).toInt64) &&& (3689348814741910323 : Int64))) + (((((a0 - (((a0.toUInt64 >>> ((1 : Int32).toInt64.toUInt64 &&& Int64.toUInt64 63)).toInt64) &&& (6148914691236517205 : Int64))) &&& (3689348814741910323 : Int64)) + ((((a0 - (((a0.toUInt64 >>> ((1 : Int32).toInt64.toUInt64 &&& Int64.toUInt64 63)).toInt64) &&& (6148914691236517205 : Int64))).toUInt64 >>> ((2 : Int32).toInt64.toUInt64 &&& Int64.toUInt64 63)).toInt64) &&& (3689348814741910323 : Int64))).toUInt64 >>> ((4 : Int32).toInt64.toUInt64 &&& Int64.toUInt64 63)).toInt64)) &&& (1085102592571150095 : Int64)) + (((((((a0 - (((a0.toUInt64 >>> ((1 : Int32).toInt64.toUInt64 &&& Int64.toUInt64 63)).toInt64) &&& (6148914691236517205 : Int64))) &&& (3689348814741910323 : Int64)) + ((((a0 - (((a0.toUInt64 >>> ((1 : Int32).toInt64.toUInt64 &&& Int64.toUInt64 63)).toInt64) &&& (6148914691236517205 : Int64))).toUInt64 >>> ((2 : Int32).toInt64.toUInt64 &&& Int64.toUInt64 63)).toInt64) &&& (3689348814741910323 : Int64))) + (((((a0 - (((a0.toUInt64 >>> ((1 : Int32).toInt64.toUInt64 &&& Int64.toUInt64 63)).toInt64) &&& (6148914691236517205 : Int64))) &&& (3689348814741910323 : Int64)) + ((((a0 - (((a0.toUInt64 >>> ((1 : Int32).toInt64.toUInt64 &&& Int64.toUInt64 63)).toInt64) &&& (6148914691236517205 : Int64))).toUInt64 >>> ((2 : Int32).toInt64.toUInt64 &&& Int64.toUInt64 63)).toInt64) &&& (3689348814741910323 : Int64))).toUInt64 >>> ((4 : Int32).toInt64.toUInt64 &&& Int64.toUInt64 63)).toInt64)) &&& (1085102592571150095 : Int64)).toUInt64 >>> ((8 : Int32).toInt64.toUInt64 &&& Int64.toUInt64 63)).toInt64))), none] _ _ _ _ _ _
  refine r_lload_n (pc := 41) dJ13_bitCount_95d88_41 rfl ?_
  refine r_lload_n (pc := 42) dJ13_bitCount_95d88_42 rfl ?_
  refine r_bipush (pc := 43) (16 : Int32) dJ13_bitCount_95d88_43 (by decide) ?_
  refine r_lushr (pc := 45) dJ13_bitCount_95d88_45 ?_
  refine r_ladd (pc := 46) dJ13_bitCount_95d88_46 ?_
  refine r_lstore_n (pc := 47) dJ13_bitCount_95d88_47 (by decide) ?_
  change gW _ _ _ [some (.long (((((((a0 - (((a0.toUInt64 >>> ((1 : Int32).toInt64.toUInt64 &&& Int64.toUInt64 63)).toInt64) &&& (6148914691236517205 : Int64))) &&& (3689348814741910323 : Int64)) + ((((a0 - (((a0.toUInt64 >>> ((1 : Int32).toInt64.toUInt64 &&& Int64.toUInt64 63)).toInt64) &&& (6148914691236517205 : Int64))).toUInt64 >>> ((2 : Int32).toInt64.toUInt64 &&& Int64.toUInt64 63)).toInt64) &&& (3689348814741910323 : Int64))) + (((((a0 - (((a0.toUInt64 >>> ((1 : Int32).toInt64.toUInt64 &&& Int64.toUInt64 63)).toInt64) &&& (6148914691236517205 : Int64))) &&& (3689348814741910323 : Int64)) + ((((a0 - (((a0.toUInt64 >>> ((1 : Int32).toInt64.toUInt64 &&& Int64.toUInt64 63)).toInt64) &&& (6148914691236517205 : Int64))).toUInt64 >>> ((2 : Int32).toInt64.toUInt64 &&& Int64.toUInt64 63)).toInt64) &&& (3689348814741910323 : Int64))).toUInt64 >>> ((4 : Int32).toInt64.toUInt64 &&& Int64.toUInt64 63)).toInt64)) &&& (1085102592571150095 : Int64)) + (((((((a0 - (((a0.toUInt64 >>> ((1 : Int32).toInt64.toUInt64 &&& Int64.toUInt64 63)).toInt64) &&& (6148914691236517205 : Int64))) &&& (3689348814741910323 : Int64)) + ((((a0 - (((a0.toUInt64 >>> ((1 : Int32).toInt64.toUInt64 &&& Int64.toUInt64 63)).toInt64) &&& (6148914691236517205 : Int64))).toUInt64 >>> ((2 : Int32).toInt64.toUInt64 &&& Int64.toUInt64 63)).toInt64) &&& (3689348814741910323 : Int64))) + (((((a0 - (((a0.toUInt64 >>> ((1 : Int32).toInt64.toUInt64 &&& Int64.toUInt64 63)).toInt64) &&& (6148914691236517205 : Int64))) &&& (3689348814741910323 : Int64)) + ((((a0 - (((a0.toUInt64 >>> ((1 : Int32).toInt64.toUInt64 &&& Int64.toUInt64 63)).toInt64) &&& (6148914691236517205 : Int64))).toUInt64 >>> ((2 : Int32).toInt64.toUInt64 &&& Int64.toUInt64 63)).toInt64) &&& (3689348814741910323 : Int64))).toUInt64 >>> ((4 : Int32).toInt64.toUInt64 &&& Int64.toUInt64 63)).toInt64)) &&& (1085102592571150095 : Int64)).toUInt64 >>> ((8 : Int32).toInt64.toUInt64 &&& Int64.toUInt64 63)).toInt64)) + ((((((((a0 - (((a0.toUInt64 >>> ((1 : Int32).toInt64.toUInt64 &&& Int64.toUInt64 63)).toInt64) &&& (6148914691236517205 : Int64))) &&& (3689348814741910323 : Int64)) + ((((a0 - (((a0.toUInt64 >>> ((1 : Int32).toInt64.toUInt64 &&& Int64.toUInt64 63)).toInt64) &&& (6148914691236517205 : Int64))).toUInt64 >>> ((2 : Int32).toInt64.toUInt64 &&& Int64.toUInt64 63)).toInt64) &&& (3689348814741910323 : Int64))) + (((((a0 - (((a0.toUInt64 >>> ((1 : Int32).toInt64.toUInt64 &&& Int64.toUInt64 63)).toInt64) &&& (6148914691236517205 : Int64))) &&& (3689348814741910323 : Int64)) + ((((a0 - (((a0.toUInt64 >>> ((1 : Int32).toInt64.toUInt64 &&& Int64.toUInt64 63)).toInt64) &&& (6148914691236517205 : Int64))).toUInt64 >>> ((2 : Int32).toInt64.toUInt64 &&& Int64.toUInt64 63)).toInt64) &&& (3689348814741910323 : Int64))).toUInt64 >>> ((4 : Int32).toInt64.toUInt64 &&& Int64.toUInt64 63)).toInt64)) &&& (1085102592571150095 : Int64)) + (((((((a0 - (((a0.toUInt64 >>> ((1 : Int32).toInt64.toUInt64 &&& Int64.toUInt64 63)).toInt64) &&& (6148914691236517205 : Int64))) &&& (3689348814741910323 : Int64)) + ((((a0 - (((a0.toUInt64 >>> ((1 : Int32).toInt64.toUInt64 &&& Int64.toUInt64 63)).toInt64) &&& (6148914691236517205 : Int64))).toUInt64 >>> ((2 : Int32).toInt64.toUInt64 &&& Int64.toUInt64 63)).toInt64) &&& (3689348814741910323 : Int64))) + (((((a0 - (((a0.toUInt64 >>> ((1 : Int32).toInt64.toUInt64 &&& Int64.toUInt64 63)).toInt64) &&& (6148914691236517205 : Int64))) &&& (3689348814741910323 : Int64)) + ((((a0 - (((a0.toUInt64 >>> ((1 : Int32).toInt64.toUInt64 &&& Int64.toUInt64 63)).toInt64) &&& (6148914691236517205 : Int64))).toUInt64 >>> ((2 : Int32).toInt64.toUInt64 &&& Int64.toUInt64 63)).toInt64) &&& (3689348814741910323 : Int64))).toUInt64 >>> ((4 : Int32).toInt64.toUInt64 &&& Int64.toUInt64 63)).toInt64)) &&& (1085102592571150095 : Int64)).toUInt64 >>> ((8 : Int32).toInt64.toUInt64 &&& Int64.toUInt64 63)).toInt64)).toUInt64 >>> ((16 : Int32).toInt64.toUInt64 &&& Int64.toUInt64 63)).toInt64))), none] _ _ _ _ _ _
  refine r_lload_n (pc := 48) dJ13_bitCount_95d88_48 rfl ?_
  refine r_lload_n (pc := 49) dJ13_bitCount_95d88_49 rfl ?_
  refine r_bipush (pc := 50) (32 : Int32) dJ13_bitCount_95d88_50 (by decide) ?_
  refine r_lushr (pc := 52) dJ13_bitCount_95d88_52 ?_
  refine r_ladd (pc := 53) dJ13_bitCount_95d88_53 ?_
  refine r_lstore_n (pc := 54) dJ13_bitCount_95d88_54 (by decide) ?_
  change gW _ _ _ [some (.long ((((((((a0 - (((a0.toUInt64 >>> ((1 : Int32).toInt64.toUInt64 &&& Int64.toUInt64 63)).toInt64) &&& (6148914691236517205 : Int64))) &&& (3689348814741910323 : Int64)) + ((((a0 - (((a0.toUInt64 >>> ((1 : Int32).toInt64.toUInt64 &&& Int64.toUInt64 63)).toInt64) &&& (6148914691236517205 : Int64))).toUInt64 >>> ((2 : Int32).toInt64.toUInt64 &&& Int64.toUInt64 63)).toInt64) &&& (3689348814741910323 : Int64))) + (((((a0 - (((a0.toUInt64 >>> ((1 : Int32).toInt64.toUInt64 &&& Int64.toUInt64 63)).toInt64) &&& (6148914691236517205 : Int64))) &&& (3689348814741910323 : Int64)) + ((((a0 - (((a0.toUInt64 >>> ((1 : Int32).toInt64.toUInt64 &&& Int64.toUInt64 63)).toInt64) &&& (6148914691236517205 : Int64))).toUInt64 >>> ((2 : Int32).toInt64.toUInt64 &&& Int64.toUInt64 63)).toInt64) &&& (3689348814741910323 : Int64))).toUInt64 >>> ((4 : Int32).toInt64.toUInt64 &&& Int64.toUInt64 63)).toInt64)) &&& (1085102592571150095 : Int64)) + (((((((a0 - (((a0.toUInt64 >>> ((1 : Int32).toInt64.toUInt64 &&& Int64.toUInt64 63)).toInt64) &&& (6148914691236517205 : Int64))) &&& (3689348814741910323 : Int64)) + ((((a0 - (((a0.toUInt64 >>> ((1 : Int32).toInt64.toUInt64 &&& Int64.toUInt64 63)).toInt64) &&& (6148914691236517205 : Int64))).toUInt64 >>> ((2 : Int32).toInt64.toUInt64 &&& Int64.toUInt64 63)).toInt64) &&& (3689348814741910323 : Int64))) + (((((a0 - (((a0.toUInt64 >>> ((1 : Int32).toInt64.toUInt64 &&& Int64.toUInt64 63)).toInt64) &&& (6148914691236517205 : Int64))) &&& (3689348814741910323 : Int64)) + ((((a0 - (((a0.toUInt64 >>> ((1 : Int32).toInt64.toUInt64 &&& Int64.toUInt64 63)).toInt64) &&& (6148914691236517205 : Int64))).toUInt64 >>> ((2 : Int32).toInt64.toUInt64 &&& Int64.toUInt64 63)).toInt64) &&& (3689348814741910323 : Int64))).toUInt64 >>> ((4 : Int32).toInt64.toUInt64 &&& Int64.toUInt64 63)).toInt64)) &&& (1085102592571150095 : Int64)).toUInt64 >>> ((8 : Int32).toInt64.toUInt64 &&& Int64.toUInt64 63)).toInt64)) + ((((((((a0 - (((a0.toUInt64 >>> ((1 : Int32).toInt64.toUInt64 &&& Int64.toUInt64 63)).toInt64) &&& (6148914691236517205 : Int64))) &&& (3689348814741910323 : Int64)) + ((((a0 - (((a0.toUInt64 >>> ((1 : Int32).toInt64.toUInt64 &&& Int64.toUInt64 63)).toInt64) &&& (6148914691236517205 : Int64))).toUInt64 >>> ((2 : Int32).toInt64.toUInt64 &&& Int64.toUInt64 63)).toInt64) &&& (3689348814741910323 : Int64))) + (((((a0 - (((a0.toUInt64 >>> ((1 : Int32).toInt64.toUInt64 &&& Int64.toUInt64 63)).toInt64) &&& (6148914691236517205 : Int64))) &&& (3689348814741910323 : Int64)) + ((((a0 - (((a0.toUInt64 >>> ((1 : Int32).toInt64.toUInt64 &&& Int64.toUInt64 63)).toInt64) &&& (6148914691236517205 : Int64))).toUInt64 >>> ((2 : Int32).toInt64.toUInt64 &&& Int64.toUInt64 63)).toInt64) &&& (3689348814741910323 : Int64))).toUInt64 >>> ((4 : Int32).toInt64.toUInt64 &&& Int64.toUInt64 63)).toInt64)) &&& (1085102592571150095 : Int64)) + (((((((a0 - (((a0.toUInt64 >>> ((1 : Int32).toInt64.toUInt64 &&& Int64.toUInt64 63)).toInt64) &&& (6148914691236517205 : Int64))) &&& (3689348814741910323 : Int64)) + ((((a0 - (((a0.toUInt64 >>> ((1 : Int32).toInt64.toUInt64 &&& Int64.toUInt64 63)).toInt64) &&& (6148914691236517205 : Int64))).toUInt64 >>> ((2 : Int32).toInt64.toUInt64 &&& Int64.toUInt64 63)).toInt64) &&& (3689348814741910323 : Int64))) + (((((a0 - (((a0.toUInt64 >>> ((1 : Int32).toInt64.toUInt64 &&& Int64.toUInt64 63)).toInt64) &&& (6148914691236517205 : Int64))) &&& (3689348814741910323 : Int64)) + ((((a0 - (((a0.toUInt64 >>> ((1 : Int32).toInt64.toUInt64 &&& Int64.toUInt64 63)).toInt64) &&& (6148914691236517205 : Int64))).toUInt64 >>> ((2 : Int32).toInt64.toUInt64 &&& Int64.toUInt64 63)).toInt64) &&& (3689348814741910323 : Int64))).toUInt64 >>> ((4 : Int32).toInt64.toUInt64 &&& Int64.toUInt64 63)).toInt64)) &&& (1085102592571150095 : Int64)).toUInt64 >>> ((8 : Int32).toInt64.toUInt64 &&& Int64.toUInt64 63)).toInt64)).toUInt64 >>> ((16 : Int32).toInt64.toUInt64 &&& Int64.toUInt64 63)).toInt64)) + (((((((((a0 - (((a0.toUInt64 >>> ((1 : Int32).toInt64.toUInt64 &&& Int64.toUInt64 63)).toInt64) &&& (6148914691236517205 : Int64))) &&& (3689348814741910323 : Int64)) + ((((a0 - (((a0.toUInt64 >>> ((1 : Int32).toInt64.toUInt64 &&& Int64.toUInt64 63)).toInt64) &&& (6148914691236517205 : Int64))).toUInt64 >>> ((2 : Int32).toInt64.toUInt64 &&& Int64.toUInt64 63)).toInt64) &&& (3689348814741910323 : Int64))) + (((((a0 - (((a0.toUInt64 >>> ((1 : Int32).toInt64.toUInt64 &&& Int64.toUInt64 63)).toInt64) &&& (6148914691236517205 : Int64))) &&& (3689348814741910323 : Int64)) + ((((a0 - (((a0.toUInt64 >>> ((1 : Int32).toInt64.toUInt64 &&& Int64.toUInt64 63)).toInt64) &&& (6148914691236517205 : Int64))).toUInt64 >>> ((2 : Int32).toInt64.toUInt64 &&& Int64.toUInt64 63)).toInt64) &&& (3689348814741910323 : Int64))).toUInt64 >>> ((4 : Int32).toInt64.toUInt64 &&& Int64.toUInt64 63)).toInt64)) &&& (1085102592571150095 : Int64)) + (((((((a0 - (((a0.toUInt64 >>> ((1 : Int32).toInt64.toUInt64 &&& Int64.toUInt64 63)).toInt64) &&& (6148914691236517205 : Int64))) &&& (3689348814741910323 : Int64)) + ((((a0 - (((a0.toUInt64 >>> ((1 : Int32).toInt64.toUInt64 &&& Int64.toUInt64 63)).toInt64) &&& (6148914691236517205 : Int64))).toUInt64 >>> ((2 : Int32).toInt64.toUInt64 &&& Int64.toUInt64 63)).toInt64) &&& (3689348814741910323 : Int64))) + (((((a0 - (((a0.toUInt64 >>> ((1 : Int32).toInt64.toUInt64 &&& Int64.toUInt64 63)).toInt64) &&& (6148914691236517205 : Int64))) &&& (3689348814741910323 : Int64)) + ((((a0 - (((a0.toUInt64 >>> ((1 : Int32).toInt64.toUInt64 &&& Int64.toUInt64 63)).toInt64) &&& (6148914691236517205 : Int64))).toUInt64 >>> ((2 : Int32).toInt64.toUInt64 &&& Int64.toUInt64 63)).toInt64) &&& (3689348814741910323 : Int64))).toUInt64 >>> ((4 : Int32).toInt64.toUInt64 &&& Int64.toUInt64 63)).toInt64)) &&& (1085102592571150095 : Int64)).toUInt64 >>> ((8 : Int32).toInt64.toUInt64 &&& Int64.toUInt64 63)).toInt64)) + ((((((((a0 - (((a0.toUInt64 >>> ((1 : Int32).toInt64.toUInt64 &&& Int64.toUInt64 63)).toInt64) &&& (6148914691236517205 : Int64))) &&& (3689348814741910323 : Int64)) + ((((a0 - (((a0.toUInt64 >>> ((1 : Int32).toInt64.toUInt64 &&& Int64.toUInt64 63)).toInt64) &&& (6148914691236517205 : Int64))).toUInt64 >>> ((2 : Int32).toInt64.toUInt64 &&& Int64.toUInt64 63)).toInt64) &&& (3689348814741910323 : Int64))) + (((((a0 - (((a0.toUInt64 >>> ((1 : Int32).toInt64.toUInt64 &&& Int64.toUInt64 63)).toInt64) &&& (6148914691236517205 : Int64))) &&& (3689348814741910323 : Int64)) + ((((a0 - (((a0.toUInt64 >>> ((1 : Int32).toInt64.toUInt64 &&& Int64.toUInt64 63)).toInt64) &&& (6148914691236517205 : Int64))).toUInt64 >>> ((2 : Int32).toInt64.toUInt64 &&& Int64.toUInt64 63)).toInt64) &&& (3689348814741910323 : Int64))).toUInt64 >>> ((4 : Int32).toInt64.toUInt64 &&& Int64.toUInt64 63)).toInt64)) &&& (1085102592571150095 : Int64)) + (((((((a0 - (((a0.toUInt64 >>> ((1 : Int32).toInt64.toUInt64 &&& Int64.toUInt64 63)).toInt64) &&& (6148914691236517205 : Int64))) &&& (3689348814741910323 : Int64)) + ((((a0 - (((a0.toUInt64 >>> ((1 : Int32).toInt64.toUInt64 &&& Int64.toUInt64 63)).toInt64) &&& (6148914691236517205 : Int64))).toUInt64 >>> ((2 : Int32).toInt64.toUInt64 &&& Int64.toUInt64 63)).toInt64) &&& (3689348814741910323 : Int64))) + (((((a0 - (((a0.toUInt64 >>> ((1 : Int32).toInt64.toUInt64 &&& Int64.toUInt64 63)).toInt64) &&& (6148914691236517205 : Int64))) &&& (3689348814741910323 : Int64)) + ((((a0 - (((a0.toUInt64 >>> ((1 : Int32).toInt64.toUInt64 &&& Int64.toUInt64 63)).toInt64) &&& (6148914691236517205 : Int64))).toUInt64 >>> ((2 : Int32).toInt64.toUInt64 &&& Int64.toUInt64 63)).toInt64) &&& (3689348814741910323 : Int64))).toUInt64 >>> ((4 : Int32).toInt64.toUInt64 &&& Int64.toUInt64 63)).toInt64)) &&& (1085102592571150095 : Int64)).toUInt64 >>> ((8 : Int32).toInt64.toUInt64 &&& Int64.toUInt64 63)).toInt64)).toUInt64 >>> ((16 : Int32).toInt64.toUInt64 &&& Int64.toUInt64 63)).toInt64)).toUInt64 >>> ((32 : Int32).toInt64.toUInt64 &&& Int64.toUInt64 63)).toInt64))), none] _ _ _ _ _ _
  refine r_lload_n (pc := 55) dJ13_bitCount_95d88_55 rfl ?_
  refine r_l2i (pc := 56) dJ13_bitCount_95d88_56 ?_
  refine r_bipush (pc := 57) (127 : Int32) dJ13_bitCount_95d88_57 (by decide) ?_
  refine r_iand (pc := 59) dJ13_bitCount_95d88_59 ?_
  refine r_ireturn (pc := 60) .int dJ13_bitCount_95d88_60 rfl rfl ?_
  cases hf
  exact hk
def F_X8_countItems (S : pS) (a0 : Nat) : Option (Int32) := (oF S a0 8).bind fun _ => (oGJ S a0 8 6).bind fun x1 => (F_J13_bitCount_95d88 S x1).bind fun q3 => some q3
set_option maxRecDepth 100000 in
set_option maxHeartbeats 4000000 in
theorem C_X8_countItems {X : pX} {Q : pO → Nat → pF → Prop} (S : pS) (a0 : Nat) (r : Int32) (hf : F_X8_countItems S a0 = some r) (hk : Q (.inl (some (.int r))) S.1 S.2) : gC X mX8_countItems [.ref a0] S.1 S.2 Q 0 0 := by
  refine gC_of (by decide) (Nat.le_of_ble_eq_true rfl) rfl ?_
  change gW _ _ _ [some (.ref a0)] _ _ _ _ _ _
  unfold F_X8_countItems at hf
  obtain ⟨_, _, hf⟩ := obind hf
  refine r_aload_n (pc := 0) dX8_countItems_0 rfl ?_
  replace hf := obind hf
  obtain ⟨x1, e2, hf⟩ := hf
  refine q_getJ (pc := 1) dX8_countItems_1 gX8_31 e2 ?_
  replace hf := obind hf
  obtain ⟨q3, e4, hf⟩ := hf
  refine q_callS (pc := 4) (v := some (.int q3)) (S' := S) mJ13_bitCount_95d88 [.long x1] dX8_countItems_4 kX8_55 fJ13_bitCount_95d88 sJ13_bitCount_95d88 ⟨by decide, by decide⟩ rfl rfl (Nat.le_of_ble_eq_true rfl) (mc1 := 0) (ms1 := 0) (mc2 := 0) (ms2 := 0) (by decide) (by decide) (C_J13_bitCount_95d88 S x1 q3 e4 (qR_mk _ _)) ?_
  change gW _ _ _ _ (.int q3 :: _) _ _ _ _ _
  refine r_ireturn (pc := 7) .int dX8_countItems_7 rfl rfl ?_
  cases hf
  exact hk
def F_X6_ordersAll (S : pS) (a0 : Nat) (a1 : Nat) : Option (Int32) := (oF S a0 6).bind fun _ => (oGI S a0 6 3).bind fun x1 => (F_X8_countItems S a1).bind fun q3 => if ¬ x1 = q3 then (some (0 : Int32)) else (some (1 : Int32))
set_option maxRecDepth 100000 in
set_option maxHeartbeats 4000000 in
theorem C_X6_ordersAll {X : pX} {Q : pO → Nat → pF → Prop} (S : pS) (a0 : Nat) (a1 : Nat) (r : Int32) (hf : F_X6_ordersAll S a0 a1 = some r) (hk : Q (.inl (some (.int r))) S.1 S.2) : gC X mX6_ordersAll [.ref a0, .ref a1] S.1 S.2 Q 0 0 := by
  refine gC_of (by decide) (Nat.le_of_ble_eq_true rfl) rfl ?_
  change gW _ _ _ [some (.ref a0), some (.ref a1)] _ _ _ _ _ _
  unfold F_X6_ordersAll at hf
  obtain ⟨_, _, hf⟩ := obind hf
  refine r_aload_n (pc := 0) dX6_ordersAll_0 rfl ?_
  replace hf := obind hf
  obtain ⟨x1, e2, hf⟩ := hf
  refine q_getI (pc := 1) dX6_ordersAll_1 gX6_21 e2 ?_
  refine r_aload_n (pc := 4) dX6_ordersAll_4 rfl ?_
  replace hf := obind hf
  obtain ⟨q3, e4, hf⟩ := hf
  refine q_callV (pc := 5) (v := some (.int q3)) (S' := S) mX8_countItems 8 [] dX6_ordersAll_5 kX6_90 fX8_countItems iX8_countItems ⟨by decide, by decide⟩ rfl rfl rfl (Nat.le_of_ble_eq_true rfl) (og e4) (mc1 := 0) (ms1 := 0) (mc2 := 0) (ms2 := 0) (by decide) (by decide) (C_X8_countItems S a1 q3 e4 (qR_mk _ _)) ?_
  change gW _ _ _ _ (.int q3 :: _) _ _ _ _ _
  refine r_icmp_ne (pc := 8) 15 dX6_ordersAll_8 (by decide) (fun hc => ?_) (fun hc => ?_)
  · rw [if_pos hc] at hf
    refine r_iconst (pc := 15) (0 : Int32) dX6_ordersAll_15 (by decide) ?_
    refine r_ireturn (pc := 16) .boolean dX6_ordersAll_16 rfl rfl ?_
    cases hf
    exact hk
  · rw [if_neg hc] at hf
    refine r_iconst (pc := 11) (1 : Int32) dX6_ordersAll_11 (by decide) ?_
    refine r_goto (pc := 12) 16 dX6_ordersAll_12 (by decide) ?_
    refine r_ireturn (pc := 16) .boolean dX6_ordersAll_16 rfl rfl ?_
    cases hf
    exact hk
abbrev L_X6_sumOfPlaces_4 (l0 : Nat) (l1 : Nat) (S : pS) : Int32 × Int32 → List (Option Value) := fun a => [some (.ref l0), some (.ref l1), some (.int a.1), some (.int a.2)]
abbrev s_X6_sumOfPlaces_4 (l0 : Nat) (l1 : Nat) (S : pS) : Int32 × Int32 → pS := fun a => S
abbrev K_X6_sumOfPlaces_4 (X : pX) (Q : pO → Nat → pF → Prop) (mc ms : Nat) (l0 : Nat) (l1 : Nat) (S : pS) : Int32 → Prop := (fun b => gW X mX6_sumOfPlaces 37 [some (.ref l0), some (.ref l1), some (.int b), none] [] S.1 S.2 Q mc ms)
def F_X6_sumOfPlaces_4 (l0 : Nat) (l1 : Nat) (S : pS) : Int32 × Int32 → Option ((Int32 × Int32) ⊕ (Int32)) := fun a => if (61 : Int32) ≤ a.2 then (some (.inr a.1)) else ((F_X8_holds S l1 a.2).bind fun q1 => if q1 = 0 then (some (.inl (a.1 + (0 : Int32), a.2 + (1 : Int32)))) else ((oGA S l0 6 4).bind fun x3 => (oAI S x3 .int a.2).bind fun x5 => some (.inl (a.1 + x5, a.2 + (1 : Int32)))))
set_option maxRecDepth 100000 in
set_option maxHeartbeats 4000000 in
theorem W_X6_sumOfPlaces_4 {X : pX} {Q : pO → Nat → pF → Prop} {mc ms : Nat} (l0 : Nat) (l1 : Nat) (S : pS) : ∀ (a : Int32 × Int32) (r : (Int32 × Int32) ⊕ (Int32)), F_X6_sumOfPlaces_4 l0 l1 S a = some r → Sum.elim (fun a' => gW X mX6_sumOfPlaces 4 (L_X6_sumOfPlaces_4 l0 l1 S a') [] (s_X6_sumOfPlaces_4 l0 l1 S a').1 (s_X6_sumOfPlaces_4 l0 l1 S a').2 Q mc ms) (K_X6_sumOfPlaces_4 X Q mc ms l0 l1 S) r → gW X mX6_sumOfPlaces 4 (L_X6_sumOfPlaces_4 l0 l1 S a) [] (s_X6_sumOfPlaces_4 l0 l1 S a).1 (s_X6_sumOfPlaces_4 l0 l1 S a).2 Q mc ms := by
  intro a r hf hk
  obtain ⟨l2, l3⟩ := a
  unfold F_X6_sumOfPlaces_4 at hf
  try dsimp only at hf
  change gW _ _ _ [some (.ref l0), some (.ref l1), some (.int l2), some (.int l3)] _ S.1 S.2 _ _ _
  refine r_iload_n (pc := 4) dX6_sumOfPlaces_4 rfl ?_
  refine r_bipush (pc := 5) (61 : Int32) dX6_sumOfPlaces_5 (by decide) ?_
  refine r_icmp_ge (pc := 7) 37 dX6_sumOfPlaces_7 (by decide) (fun hc => ?_) (fun hc => ?_)
  · rw [if_pos hc] at hf
    cases hf
    exact gW.weak (by simp [gle]) hk
  · rw [if_neg hc] at hf
    refine r_iload_n (pc := 10) dX6_sumOfPlaces_10 rfl ?_
    refine r_aload_n (pc := 11) dX6_sumOfPlaces_11 rfl ?_
    refine r_iload_n (pc := 12) dX6_sumOfPlaces_12 rfl ?_
    replace hf := obind hf
    obtain ⟨q1, e2, hf⟩ := hf
    refine q_callV (pc := 13) (v := some (.int q1)) (S' := S) mX8_holds 8 [.int l3] dX6_sumOfPlaces_13 kX6_51 fX8_holds iX8_holds ⟨by decide, by decide⟩ rfl rfl rfl (Nat.le_of_ble_eq_true rfl) (og e2) (mc1 := 0) (ms1 := 0) (mc2 := mc) (ms2 := ms) (by omega) (by omega) (C_X8_holds S l1 l3 q1 e2 (qR_mk _ _)) ?_
    change gW _ _ _ _ (.int q1 :: _) _ _ _ _ _
    refine r_if_eq (pc := 16) 28 dX6_sumOfPlaces_16 (by decide) (fun hc => ?_) (fun hc => ?_)
    · rw [if_pos hc] at hf
      refine r_iconst (pc := 28) (0 : Int32) dX6_sumOfPlaces_28 (by decide) ?_
      refine r_iadd (pc := 29) dX6_sumOfPlaces_29 ?_
      refine r_istore_n (pc := 30) dX6_sumOfPlaces_30 (by decide) ?_
      change gW _ _ _ [some (.ref l0), some (.ref l1), some (.int (l2 + (0 : Int32))), some (.int l3)] _ _ _ _ _ _
      refine r_iinc (pc := 31) dX6_sumOfPlaces_31 rfl (by decide) ?_
      change gW _ _ _ [some (.ref l0), some (.ref l1), some (.int (l2 + (0 : Int32))), some (.int (l3 + (1 : Int32)))] _ _ _ _ _ _
      refine r_goto (pc := 34) 4 dX6_sumOfPlaces_34 (by decide) ?_
      cases hf
      exact gW.weak (by simp [gle]) hk
    · rw [if_neg hc] at hf
      refine r_aload_n (pc := 19) dX6_sumOfPlaces_19 rfl ?_
      replace hf := obind hf
      obtain ⟨x3, e4, hf⟩ := hf
      refine q_getA (pc := 20) dX6_sumOfPlaces_20 gX6_25 e4 ?_
      refine r_iload_n (pc := 23) dX6_sumOfPlaces_23 rfl ?_
      replace hf := obind hf
      obtain ⟨x5, e6, hf⟩ := hf
      refine q_iald (pc := 24) dX6_sumOfPlaces_24 e6 ?_
      refine r_goto (pc := 25) 29 dX6_sumOfPlaces_25 (by decide) ?_
      refine r_iadd (pc := 29) dX6_sumOfPlaces_29 ?_
      refine r_istore_n (pc := 30) dX6_sumOfPlaces_30 (by decide) ?_
      change gW _ _ _ [some (.ref l0), some (.ref l1), some (.int (l2 + x5)), some (.int l3)] _ _ _ _ _ _
      refine r_iinc (pc := 31) dX6_sumOfPlaces_31 rfl (by decide) ?_
      change gW _ _ _ [some (.ref l0), some (.ref l1), some (.int (l2 + x5)), some (.int (l3 + (1 : Int32)))] _ _ _ _ _ _
      refine r_goto (pc := 34) 4 dX6_sumOfPlaces_34 (by decide) ?_
      cases hf
      exact gW.weak (by simp [gle]) hk
def F_X6_sumOfPlaces (S : pS) (a0 : Nat) (a1 : Nat) : Option (Int32) := (oF S a0 6).bind fun _ => (iter (F_X6_sumOfPlaces_4 a0 a1 S) fu ((0 : Int32), (1 : Int32))).bind fun r7 => some r7
set_option maxRecDepth 100000 in
set_option maxHeartbeats 4000000 in
theorem C_X6_sumOfPlaces {X : pX} {Q : pO → Nat → pF → Prop} (S : pS) (a0 : Nat) (a1 : Nat) (r : Int32) (hf : F_X6_sumOfPlaces S a0 a1 = some r) (hk : Q (.inl (some (.int r))) S.1 S.2) : gC X mX6_sumOfPlaces [.ref a0, .ref a1] S.1 S.2 Q 0 0 := by
  refine gC_of (by decide) (Nat.le_of_ble_eq_true rfl) rfl ?_
  change gW _ _ _ [some (.ref a0), some (.ref a1), none, none] _ _ _ _ _ _
  unfold F_X6_sumOfPlaces at hf
  obtain ⟨_, _, hf⟩ := obind hf
  refine r_iconst (pc := 0) (0 : Int32) dX6_sumOfPlaces_0 (by decide) ?_
  refine r_istore_n (pc := 1) dX6_sumOfPlaces_1 (by decide) ?_
  change gW _ _ _ [some (.ref a0), some (.ref a1), some (.int (0 : Int32)), none] _ _ _ _ _ _
  refine r_iconst (pc := 2) (1 : Int32) dX6_sumOfPlaces_2 (by decide) ?_
  refine r_istore_n (pc := 3) dX6_sumOfPlaces_3 (by decide) ?_
  change gW _ _ _ [some (.ref a0), some (.ref a1), some (.int (0 : Int32)), some (.int (1 : Int32))] _ _ _ _ _ _
  replace hf := obind hf
  obtain ⟨r7, e8, hf⟩ := hf
  refine gW.weak (ls' := [some (.ref a0), some (.ref a1), some (.int (0 : Int32)), some (.int (1 : Int32))]) (by simp [gle]) ?_
  refine g_iter (L := L_X6_sumOfPlaces_4 a0 a1 S) (s := s_X6_sumOfPlaces_4 a0 a1 S) (K := K_X6_sumOfPlaces_4 X Q _ _ a0 a1 S) (W_X6_sumOfPlaces_4 a0 a1 S) fu ((0 : Int32), (1 : Int32)) _ e8 ?_
  show gW _ _ 37 [some (.ref a0), some (.ref a1), some (.int r7), none] [] S.1 S.2 _ _ _
  refine r_iload_n (pc := 37) dX6_sumOfPlaces_37 rfl ?_
  refine r_ireturn (pc := 38) .int dX6_sumOfPlaces_38 rfl rfl ?_
  cases hf
  exact hk
