def F_X10_errorPosition (S : pS) (a0 : Nat) : Option (Int32 × pS) := (oF S a0 10).bind fun _ => (oPI S a0 10 0 (0 : Int32)).bind fun S1 => (oGI S1 a0 10 11).bind fun x3 => if ¬ x3 = (-1 : Int32) then ((oGI S1 a0 10 11).bind fun x5 => some (x5, S1)) else ((F_X10_fails S1 a0 (1 : Int32)).bind fun q7 => some (q7.1, q7.2))
set_option maxRecDepth 100000 in
set_option maxHeartbeats 4000000 in
theorem C_X10_errorPosition {X : pX} {Q : pO → Nat → pF → Prop} (S : pS) (a0 : Nat) (r : Int32 × pS) (hf : F_X10_errorPosition S a0 = some r) (hk : Q (.inl (some (.int r.1))) r.2.1 r.2.2) : gC X mX10_errorPosition [.ref a0] S.1 S.2 Q 0 0 := by
  refine gC_of (by decide) (Nat.le_of_ble_eq_true rfl) ?_
  change gW _ _ _ [some (.ref a0)] _ _ _ _ _ _
  unfold F_X10_errorPosition at hf
  obtain ⟨_, _, hf⟩ := obind hf
  refine r_aload_n (pc := 0) dX10_errorPosition_0 rfl ?_
  refine r_iconst (pc := 1) (0 : Int32) dX10_errorPosition_1 (by decide) ?_
  obtain ⟨S1, e2, hf⟩ := obind hf
  refine q_putI (pc := 2) dX10_errorPosition_2 pX10_139 rfl e2 ?_
  refine r_aload_n (pc := 5) dX10_errorPosition_5 rfl ?_
  obtain ⟨x3, e4, hf⟩ := obind hf
  refine q_getI (pc := 6) dX10_errorPosition_6 gX10_28 e4 ?_
  refine r_iconst (pc := 9) (-1 : Int32) dX10_errorPosition_9 (by decide) ?_
  refine r_icmp_ne (pc := 10) 21 dX10_errorPosition_10 (by decide) (fun hc => ?_) (fun hc => ?_)
  · rw [if_pos hc] at hf
    refine r_aload_n (pc := 21) dX10_errorPosition_21 rfl ?_
    obtain ⟨x5, e6, hf⟩ := obind hf
    refine q_getI (pc := 22) dX10_errorPosition_22 gX10_28 e6 ?_
    refine r_ireturn (pc := 25) .int dX10_errorPosition_25 rfl rfl ?_
    cases hf
    exact hk
  · rw [if_neg hc] at hf
    refine r_aload_n (pc := 13) dX10_errorPosition_13 rfl ?_
    refine r_iconst (pc := 14) (1 : Int32) dX10_errorPosition_14 (by decide) ?_
    obtain ⟨q7, e8, hf⟩ := obind hf
    refine q_callV (pc := 15) (v := some (.int q7.1)) (S' := q7.2) mX10_fails 10 [.int (1 : Int32)] dX10_errorPosition_15 kX10_186 fX10_fails iX10_fails ⟨by decide, by decide⟩ rfl rfl rfl (Nat.le_of_ble_eq_true rfl) (og e8) (mc1 := 0) (ms1 := 0) (mc2 := 0) (ms2 := 0) (by decide) (by decide) (C_X10_fails S1 a0 (1 : Int32) q7 e8 (qR_mk _ _)) ?_
    change gW _ _ _ _ (.int q7.1 :: _) _ _ _ _ _
    refine r_goto (pc := 18) 25 dX10_errorPosition_18 (by decide) ?_
    refine r_ireturn (pc := 25) .int dX10_errorPosition_25 rfl rfl ?_
    cases hf
    exact hk
def F_X10_refusal (S : pS) (a0 : Nat) (a1 : Int32) : Option (Int32 × pS) := (oF S a0 10).bind fun _ => (oPI S a0 10 0 (0 : Int32)).bind fun S1 => (oGI S1 a0 10 13).bind fun x3 => if ¬ x3 = 0 then ((oGI S1 a0 10 13).bind fun x5 => (F_X10_in S1 a1 (0 : Int32) (x5 - (1 : Int32))).bind fun q7 => if q7 = 0 then ((F_X10_fails S1 a0 (2 : Int32)).bind fun q9 => some (q9.1, q9.2)) else ((oGA S1 a0 10 12).bind fun x11 => (oAI S1 x11 .int a1).bind fun x13 => some (x13, S1))) else ((F_X10_fails S1 a0 (1 : Int32)).bind fun q15 => some (q15.1, q15.2))
set_option maxRecDepth 100000 in
set_option maxHeartbeats 4000000 in
theorem C_X10_refusal {X : pX} {Q : pO → Nat → pF → Prop} (S : pS) (a0 : Nat) (a1 : Int32) (r : Int32 × pS) (hf : F_X10_refusal S a0 a1 = some r) (hk : Q (.inl (some (.int r.1))) r.2.1 r.2.2) : gC X mX10_refusal [.ref a0, .int a1] S.1 S.2 Q 0 0 := by
  refine gC_of (by decide) (Nat.le_of_ble_eq_true rfl) ?_
  change gW _ _ _ [some (.ref a0), some (.int a1)] _ _ _ _ _ _
  unfold F_X10_refusal at hf
  obtain ⟨_, _, hf⟩ := obind hf
  refine r_aload_n (pc := 0) dX10_refusal_0 rfl ?_
  refine r_iconst (pc := 1) (0 : Int32) dX10_refusal_1 (by decide) ?_
  obtain ⟨S1, e2, hf⟩ := obind hf
  refine q_putI (pc := 2) dX10_refusal_2 pX10_139 rfl e2 ?_
  refine r_aload_n (pc := 5) dX10_refusal_5 rfl ?_
  obtain ⟨x3, e4, hf⟩ := obind hf
  refine q_getI (pc := 6) dX10_refusal_6 gX10_183 e4 ?_
  refine r_if_ne (pc := 9) 18 dX10_refusal_9 (by decide) (fun hc => ?_) (fun hc => ?_)
  · rw [if_pos hc] at hf
    refine r_iload_n (pc := 18) dX10_refusal_18 rfl ?_
    refine r_iconst (pc := 19) (0 : Int32) dX10_refusal_19 (by decide) ?_
    refine r_aload_n (pc := 20) dX10_refusal_20 rfl ?_
    obtain ⟨x5, e6, hf⟩ := obind hf
    refine q_getI (pc := 21) dX10_refusal_21 gX10_183 e6 ?_
    refine r_iconst (pc := 24) (1 : Int32) dX10_refusal_24 (by decide) ?_
    refine r_isub (pc := 25) dX10_refusal_25 ?_
    obtain ⟨q7, e8, hf⟩ := obind hf
    refine q_callS (pc := 26) (v := some (.int q7)) (S' := S1) mX10_in [.int a1, .int (0 : Int32), .int (x5 - (1 : Int32))] dX10_refusal_26 kX10_142 fX10_in sX10_in ⟨by decide, by decide⟩ rfl rfl (Nat.le_of_ble_eq_true rfl) (mc1 := 0) (ms1 := 0) (mc2 := 0) (ms2 := 0) (by decide) (by decide) (C_X10_in S1 a1 (0 : Int32) (x5 - (1 : Int32)) q7 e8 (qR_mk _ _)) ?_
    change gW _ _ _ _ (.int q7 :: _) _ _ _ _ _
    refine r_if_eq (pc := 29) 41 dX10_refusal_29 (by decide) (fun hc => ?_) (fun hc => ?_)
    · rw [if_pos hc] at hf
      refine r_aload_n (pc := 41) dX10_refusal_41 rfl ?_
      refine r_iconst (pc := 42) (2 : Int32) dX10_refusal_42 (by decide) ?_
      obtain ⟨q9, e10, hf⟩ := obind hf
      refine q_callV (pc := 43) (v := some (.int q9.1)) (S' := q9.2) mX10_fails 10 [.int (2 : Int32)] dX10_refusal_43 kX10_186 fX10_fails iX10_fails ⟨by decide, by decide⟩ rfl rfl rfl (Nat.le_of_ble_eq_true rfl) (og e10) (mc1 := 0) (ms1 := 0) (mc2 := 0) (ms2 := 0) (by decide) (by decide) (C_X10_fails S1 a0 (2 : Int32) q9 e10 (qR_mk _ _)) ?_
      change gW _ _ _ _ (.int q9.1 :: _) _ _ _ _ _
      refine r_ireturn (pc := 46) .int dX10_refusal_46 rfl rfl ?_
      cases hf
      exact hk
    · rw [if_neg hc] at hf
      refine r_aload_n (pc := 32) dX10_refusal_32 rfl ?_
      obtain ⟨x11, e12, hf⟩ := obind hf
      refine q_getA (pc := 33) dX10_refusal_33 gX10_32 e12 ?_
      refine r_iload_n (pc := 36) dX10_refusal_36 rfl ?_
      obtain ⟨x13, e14, hf⟩ := obind hf
      refine q_iald (pc := 37) dX10_refusal_37 e14 ?_
      refine r_goto (pc := 38) 46 dX10_refusal_38 (by decide) ?_
      refine r_ireturn (pc := 46) .int dX10_refusal_46 rfl rfl ?_
      cases hf
      exact hk
  · rw [if_neg hc] at hf
    refine r_aload_n (pc := 12) dX10_refusal_12 rfl ?_
    refine r_iconst (pc := 13) (1 : Int32) dX10_refusal_13 (by decide) ?_
    obtain ⟨q15, e16, hf⟩ := obind hf
    refine q_callV (pc := 14) (v := some (.int q15.1)) (S' := q15.2) mX10_fails 10 [.int (1 : Int32)] dX10_refusal_14 kX10_186 fX10_fails iX10_fails ⟨by decide, by decide⟩ rfl rfl rfl (Nat.le_of_ble_eq_true rfl) (og e16) (mc1 := 0) (ms1 := 0) (mc2 := 0) (ms2 := 0) (by decide) (by decide) (C_X10_fails S1 a0 (1 : Int32) q15 e16 (qR_mk _ _)) ?_
    change gW _ _ _ _ (.int q15.1 :: _) _ _ _ _ _
    refine r_ireturn (pc := 17) .int dX10_refusal_17 rfl rfl ?_
    cases hf
    exact hk
def F_X10_isConsistent (S : pS) (a0 : Nat) : Option (Int32 × pS) := (oF S a0 10).bind fun _ => (oPI S a0 10 0 (0 : Int32)).bind fun S1 => some ((1 : Int32), S1)
set_option maxRecDepth 100000 in
set_option maxHeartbeats 4000000 in
theorem C_X10_isConsistent {X : pX} {Q : pO → Nat → pF → Prop} (S : pS) (a0 : Nat) (r : Int32 × pS) (hf : F_X10_isConsistent S a0 = some r) (hk : Q (.inl (some (.int r.1))) r.2.1 r.2.2) : gC X mX10_isConsistent [.ref a0] S.1 S.2 Q 0 0 := by
  refine gC_of (by decide) (Nat.le_of_ble_eq_true rfl) ?_
  change gW _ _ _ [some (.ref a0)] _ _ _ _ _ _
  unfold F_X10_isConsistent at hf
  obtain ⟨_, _, hf⟩ := obind hf
  refine r_aload_n (pc := 0) dX10_isConsistent_0 rfl ?_
  refine r_iconst (pc := 1) (0 : Int32) dX10_isConsistent_1 (by decide) ?_
  obtain ⟨S1, e2, hf⟩ := obind hf
  refine q_putI (pc := 2) dX10_isConsistent_2 pX10_139 rfl e2 ?_
  refine r_iconst (pc := 5) (1 : Int32) dX10_isConsistent_5 (by decide) ?_
  refine r_ireturn (pc := 6) .boolean dX10_isConsistent_6 rfl rfl ?_
  cases hf
  exact hk
abbrev L_X10_undo_30 (l0 : Nat) : Int32 × pS → List (Option Value) := fun a => [some (.ref l0), some (.int a.1)]
abbrev s_X10_undo_30 (l0 : Nat) : Int32 × pS → pS := fun a => a.2
abbrev K_X10_undo_30 (X : pX) (Q : pO → Nat → pF → Prop) (mc ms : Nat) (l0 : Nat) : pS → Prop := (fun b => gW X mX10_undo 64 [some (.ref l0), none] [] b.1 b.2 Q mc ms)
def F_X10_undo_30 (l0 : Nat) : Int32 × pS → Option ((Int32 × pS) ⊕ (pS)) := fun a => if (1709 : Int32) ≤ a.1 then (some (.inr a.2)) else ((oGA a.2 l0 10 1).bind fun x9 => (oGA a.2 l0 10 4).bind fun x11 => (oGI a.2 l0 10 5).bind fun x13 => (oAI a.2 x11 .int (((1709 : Int32) * x13) + a.1)).bind fun x15 => (oSI a.2 x9 .int a.1 x15).bind fun S17 => some (.inl (a.1 + (1 : Int32), S17)))
set_option maxRecDepth 100000 in
set_option maxHeartbeats 4000000 in
theorem W_X10_undo_30 {X : pX} {Q : pO → Nat → pF → Prop} {mc ms : Nat} (l0 : Nat) : ∀ (a : Int32 × pS) (r : (Int32 × pS) ⊕ (pS)), F_X10_undo_30 l0 a = some r → Sum.elim (fun a' => gW X mX10_undo 30 (L_X10_undo_30 l0 a') [] (s_X10_undo_30 l0 a').1 (s_X10_undo_30 l0 a').2 Q mc ms) (K_X10_undo_30 X Q mc ms l0) r → gW X mX10_undo 30 (L_X10_undo_30 l0 a) [] (s_X10_undo_30 l0 a).1 (s_X10_undo_30 l0 a).2 Q mc ms := by
  intro a r hf hk
  obtain ⟨l1, S⟩ := a
  unfold F_X10_undo_30 at hf
  try dsimp only at hf
  change gW _ _ _ [some (.ref l0), some (.int l1)] _ S.1 S.2 _ _ _
  refine r_iload_n (pc := 30) dX10_undo_30 rfl ?_
  refine r_sipush (pc := 31) (1709 : Int32) dX10_undo_31 (by decide) ?_
  refine r_icmp_ge (pc := 34) 64 dX10_undo_34 (by decide) (fun hc => ?_) (fun hc => ?_)
  · rw [if_pos hc] at hf
    cases hf
    exact gW.weak (by simp [gle]) hk
  · rw [if_neg hc] at hf
    refine r_aload_n (pc := 37) dX10_undo_37 rfl ?_
    obtain ⟨x9, e10, hf⟩ := obind hf
    refine q_getA (pc := 38) dX10_undo_38 gX10_7 e10 ?_
    refine r_iload_n (pc := 41) dX10_undo_41 rfl ?_
    refine r_aload_n (pc := 42) dX10_undo_42 rfl ?_
    obtain ⟨x11, e12, hf⟩ := obind hf
    refine q_getA (pc := 43) dX10_undo_43 gX10_19 e12 ?_
    refine r_sipush (pc := 46) (1709 : Int32) dX10_undo_46 (by decide) ?_
    refine r_aload_n (pc := 49) dX10_undo_49 rfl ?_
    obtain ⟨x13, e14, hf⟩ := obind hf
    refine q_getI (pc := 50) dX10_undo_50 gX10_157 e14 ?_
    refine r_imul (pc := 53) dX10_undo_53 ?_
    refine r_iload_n (pc := 54) dX10_undo_54 rfl ?_
    refine r_iadd (pc := 55) dX10_undo_55 ?_
    obtain ⟨x15, e16, hf⟩ := obind hf
    refine q_iald (pc := 56) dX10_undo_56 e16 ?_
    obtain ⟨S17, e18, hf⟩ := obind hf
    refine q_iast (pc := 57) dX10_undo_57 e18 ?_
    refine r_iinc (pc := 58) dX10_undo_58 rfl (by decide) ?_
    change gW _ _ _ [some (.ref l0), some (.int (l1 + (1 : Int32)))] _ _ _ _ _ _
    refine r_goto (pc := 61) 30 dX10_undo_61 (by decide) ?_
    cases hf
    exact gW.weak (by simp [gle]) hk
def F_X10_undo (S : pS) (a0 : Nat) : Option (Int32 × pS) := (oF S a0 10).bind fun _ => (oPI S a0 10 0 (0 : Int32)).bind fun S1 => (oGI S1 a0 10 5).bind fun x3 => if ¬ x3 = 0 then ((oGI S1 a0 10 5).bind fun x5 => (oPI S1 a0 10 5 (x5 - (1 : Int32))).bind fun S7 => (iter (F_X10_undo_30 a0) fu ((0 : Int32), S7)).bind fun r19 => (F_X10_checksHoists r19 a0).bind fun q21 => (oGI q21 a0 10 5).bind fun x23 => some (x23, q21)) else ((F_X10_fails S1 a0 (1 : Int32)).bind fun q25 => some (q25.1, q25.2))
set_option maxRecDepth 100000 in
set_option maxHeartbeats 4000000 in
theorem C_X10_undo {X : pX} {Q : pO → Nat → pF → Prop} (S : pS) (a0 : Nat) (r : Int32 × pS) (hf : F_X10_undo S a0 = some r) (hk : Q (.inl (some (.int r.1))) r.2.1 r.2.2) : gC X mX10_undo [.ref a0] S.1 S.2 Q 0 0 := by
  refine gC_of (by decide) (Nat.le_of_ble_eq_true rfl) ?_
  change gW _ _ _ [some (.ref a0), none] _ _ _ _ _ _
  unfold F_X10_undo at hf
  obtain ⟨_, _, hf⟩ := obind hf
  refine r_aload_n (pc := 0) dX10_undo_0 rfl ?_
  refine r_iconst (pc := 1) (0 : Int32) dX10_undo_1 (by decide) ?_
  obtain ⟨S1, e2, hf⟩ := obind hf
  refine q_putI (pc := 2) dX10_undo_2 pX10_139 rfl e2 ?_
  refine r_aload_n (pc := 5) dX10_undo_5 rfl ?_
  obtain ⟨x3, e4, hf⟩ := obind hf
  refine q_getI (pc := 6) dX10_undo_6 gX10_157 e4 ?_
  refine r_if_ne (pc := 9) 18 dX10_undo_9 (by decide) (fun hc => ?_) (fun hc => ?_)
  · rw [if_pos hc] at hf
    refine r_aload_n (pc := 18) dX10_undo_18 rfl ?_
    refine r_dup (pc := 19) dX10_undo_19 rfl ?_
    obtain ⟨x5, e6, hf⟩ := obind hf
    refine q_getI (pc := 20) dX10_undo_20 gX10_157 e6 ?_
    refine r_iconst (pc := 23) (1 : Int32) dX10_undo_23 (by decide) ?_
    refine r_isub (pc := 24) dX10_undo_24 ?_
    obtain ⟨S7, e8, hf⟩ := obind hf
    refine q_putI (pc := 25) dX10_undo_25 pX10_157 rfl e8 ?_
    refine r_iconst (pc := 28) (0 : Int32) dX10_undo_28 (by decide) ?_
    refine r_istore_n (pc := 29) dX10_undo_29 (by decide) ?_
    change gW _ _ _ [some (.ref a0), some (.int (0 : Int32))] _ _ _ _ _ _
    obtain ⟨r19, e20, hf⟩ := obind hf
    refine gW.weak (ls' := [some (.ref a0), some (.int (0 : Int32))]) (by simp [gle]) ?_
    refine g_iter (L := L_X10_undo_30 a0) (s := s_X10_undo_30 a0) (K := K_X10_undo_30 X Q _ _ a0) (W_X10_undo_30 a0) fu ((0 : Int32), S7) _ e20 ?_
    show gW _ _ 64 [some (.ref a0), none] [] r19.1 r19.2 _ _ _
    refine r_aload_n (pc := 64) dX10_undo_64 rfl ?_
    obtain ⟨q21, e22, hf⟩ := obind hf
    refine q_callV (pc := 65) (v := none) (S' := q21) mX10_checksHoists 10 [] dX10_undo_65 kX10_160 fX10_checksHoists iX10_checksHoists ⟨by decide, by decide⟩ rfl rfl rfl (Nat.le_of_ble_eq_true rfl) (og e22) (mc1 := 0) (ms1 := 0) (mc2 := 0) (ms2 := 0) (by decide) (by decide) (C_X10_checksHoists r19 a0 q21 e22 (qR_mk _ _)) ?_
    refine r_aload_n (pc := 68) dX10_undo_68 rfl ?_
    obtain ⟨x23, e24, hf⟩ := obind hf
    refine q_getI (pc := 69) dX10_undo_69 gX10_157 e24 ?_
    refine r_ireturn (pc := 72) .int dX10_undo_72 rfl rfl ?_
    cases hf
    exact hk
  · rw [if_neg hc] at hf
    refine r_aload_n (pc := 12) dX10_undo_12 rfl ?_
    refine r_iconst (pc := 13) (1 : Int32) dX10_undo_13 (by decide) ?_
    obtain ⟨q25, e26, hf⟩ := obind hf
    refine q_callV (pc := 14) (v := some (.int q25.1)) (S' := q25.2) mX10_fails 10 [.int (1 : Int32)] dX10_undo_14 kX10_186 fX10_fails iX10_fails ⟨by decide, by decide⟩ rfl rfl rfl (Nat.le_of_ble_eq_true rfl) (og e26) (mc1 := 0) (ms1 := 0) (mc2 := 0) (ms2 := 0) (by decide) (by decide) (C_X10_fails S1 a0 (1 : Int32) q25 e26 (qR_mk _ _)) ?_
    change gW _ _ _ _ (.int q25.1 :: _) _ _ _ _ _
    refine r_ireturn (pc := 17) .int dX10_undo_17 rfl rfl ?_
    cases hf
    exact hk
abbrev L_X10_snapshot_7 (l0 : Nat) : Int32 × pS → List (Option Value) := fun a => [some (.ref l0), some (.int a.1)]
abbrev s_X10_snapshot_7 (l0 : Nat) : Int32 × pS → pS := fun a => a.2
abbrev K_X10_snapshot_7 (X : pX) (Q : pO → Nat → pF → Prop) (mc ms : Nat) (l0 : Nat) : pS → Prop := (fun b => gW X mX10_snapshot 32 [some (.ref l0), none] [] b.1 b.2 Q mc ms)
def F_X10_snapshot_7 (l0 : Nat) : Int32 × pS → Option ((Int32 × pS) ⊕ (pS)) := fun a => if (1709 : Int32) ≤ a.1 then (some (.inr a.2)) else ((oGA a.2 l0 10 2).bind fun x3 => (oGA a.2 l0 10 1).bind fun x5 => (oAI a.2 x5 .int a.1).bind fun x7 => (oSI a.2 x3 .int a.1 x7).bind fun S9 => some (.inl (a.1 + (1 : Int32), S9)))
set_option maxRecDepth 100000 in
set_option maxHeartbeats 4000000 in
theorem W_X10_snapshot_7 {X : pX} {Q : pO → Nat → pF → Prop} {mc ms : Nat} (l0 : Nat) : ∀ (a : Int32 × pS) (r : (Int32 × pS) ⊕ (pS)), F_X10_snapshot_7 l0 a = some r → Sum.elim (fun a' => gW X mX10_snapshot 7 (L_X10_snapshot_7 l0 a') [] (s_X10_snapshot_7 l0 a').1 (s_X10_snapshot_7 l0 a').2 Q mc ms) (K_X10_snapshot_7 X Q mc ms l0) r → gW X mX10_snapshot 7 (L_X10_snapshot_7 l0 a) [] (s_X10_snapshot_7 l0 a).1 (s_X10_snapshot_7 l0 a).2 Q mc ms := by
  intro a r hf hk
  obtain ⟨l1, S⟩ := a
  unfold F_X10_snapshot_7 at hf
  try dsimp only at hf
  change gW _ _ _ [some (.ref l0), some (.int l1)] _ S.1 S.2 _ _ _
  refine r_iload_n (pc := 7) dX10_snapshot_7 rfl ?_
  refine r_sipush (pc := 8) (1709 : Int32) dX10_snapshot_8 (by decide) ?_
  refine r_icmp_ge (pc := 11) 32 dX10_snapshot_11 (by decide) (fun hc => ?_) (fun hc => ?_)
  · rw [if_pos hc] at hf
    cases hf
    exact gW.weak (by simp [gle]) hk
  · rw [if_neg hc] at hf
    refine r_aload_n (pc := 14) dX10_snapshot_14 rfl ?_
    obtain ⟨x3, e4, hf⟩ := obind hf
    refine q_getA (pc := 15) dX10_snapshot_15 gX10_13 e4 ?_
    refine r_iload_n (pc := 18) dX10_snapshot_18 rfl ?_
    refine r_aload_n (pc := 19) dX10_snapshot_19 rfl ?_
    obtain ⟨x5, e6, hf⟩ := obind hf
    refine q_getA (pc := 20) dX10_snapshot_20 gX10_7 e6 ?_
    refine r_iload_n (pc := 23) dX10_snapshot_23 rfl ?_
    obtain ⟨x7, e8, hf⟩ := obind hf
    refine q_iald (pc := 24) dX10_snapshot_24 e8 ?_
    obtain ⟨S9, e10, hf⟩ := obind hf
    refine q_iast (pc := 25) dX10_snapshot_25 e10 ?_
    refine r_iinc (pc := 26) dX10_snapshot_26 rfl (by decide) ?_
    change gW _ _ _ [some (.ref l0), some (.int (l1 + (1 : Int32)))] _ _ _ _ _ _
    refine r_goto (pc := 29) 7 dX10_snapshot_29 (by decide) ?_
    cases hf
    exact gW.weak (by simp [gle]) hk
def F_X10_snapshot (S : pS) (a0 : Nat) : Option (Int32 × pS) := (oF S a0 10).bind fun _ => (oPI S a0 10 0 (0 : Int32)).bind fun S1 => (iter (F_X10_snapshot_7 a0) fu ((0 : Int32), S1)).bind fun r11 => (oPZ r11 a0 10 6 (1 : Int32)).bind fun S13 => (F_X10_items S13 a0).bind fun q15 => some (q15, S13)
set_option maxRecDepth 100000 in
set_option maxHeartbeats 4000000 in
theorem C_X10_snapshot {X : pX} {Q : pO → Nat → pF → Prop} (S : pS) (a0 : Nat) (r : Int32 × pS) (hf : F_X10_snapshot S a0 = some r) (hk : Q (.inl (some (.int r.1))) r.2.1 r.2.2) : gC X mX10_snapshot [.ref a0] S.1 S.2 Q 0 0 := by
  refine gC_of (by decide) (Nat.le_of_ble_eq_true rfl) ?_
  change gW _ _ _ [some (.ref a0), none] _ _ _ _ _ _
  unfold F_X10_snapshot at hf
  obtain ⟨_, _, hf⟩ := obind hf
  refine r_aload_n (pc := 0) dX10_snapshot_0 rfl ?_
  refine r_iconst (pc := 1) (0 : Int32) dX10_snapshot_1 (by decide) ?_
  obtain ⟨S1, e2, hf⟩ := obind hf
  refine q_putI (pc := 2) dX10_snapshot_2 pX10_139 rfl e2 ?_
  refine r_iconst (pc := 5) (0 : Int32) dX10_snapshot_5 (by decide) ?_
  refine r_istore_n (pc := 6) dX10_snapshot_6 (by decide) ?_
  change gW _ _ _ [some (.ref a0), some (.int (0 : Int32))] _ _ _ _ _ _
  obtain ⟨r11, e12, hf⟩ := obind hf
  refine gW.weak (ls' := [some (.ref a0), some (.int (0 : Int32))]) (by simp [gle]) ?_
  refine g_iter (L := L_X10_snapshot_7 a0) (s := s_X10_snapshot_7 a0) (K := K_X10_snapshot_7 X Q _ _ a0) (W_X10_snapshot_7 a0) fu ((0 : Int32), S1) _ e12 ?_
  show gW _ _ 32 [some (.ref a0), none] [] r11.1 r11.2 _ _ _
  refine r_aload_n (pc := 32) dX10_snapshot_32 rfl ?_
  refine r_iconst (pc := 33) (1 : Int32) dX10_snapshot_33 (by decide) ?_
  obtain ⟨S13, e14, hf⟩ := obind hf
  refine q_putZ (pc := 34) dX10_snapshot_34 pX10_366 rfl e14 ?_
  refine r_aload_n (pc := 37) dX10_snapshot_37 rfl ?_
  obtain ⟨q15, e16, hf⟩ := obind hf
  refine q_callV (pc := 38) (v := some (.int q15)) (S' := S13) mX10_items 10 [] dX10_snapshot_38 kX10_190 fX10_items iX10_items ⟨by decide, by decide⟩ rfl rfl rfl (Nat.le_of_ble_eq_true rfl) (og e16) (mc1 := 0) (ms1 := 0) (mc2 := 0) (ms2 := 0) (by decide) (by decide) (C_X10_items S13 a0 q15 e16 (qR_mk _ _)) ?_
  change gW _ _ _ _ (.int q15 :: _) _ _ _ _ _
  refine r_ireturn (pc := 41) .int dX10_snapshot_41 rfl rfl ?_
  cases hf
  exact hk
abbrev L_X10_restore_20 (l0 : Nat) : Int32 × pS → List (Option Value) := fun a => [some (.ref l0), some (.int a.1)]
abbrev s_X10_restore_20 (l0 : Nat) : Int32 × pS → pS := fun a => a.2
abbrev K_X10_restore_20 (X : pX) (Q : pO → Nat → pF → Prop) (mc ms : Nat) (l0 : Nat) : pS → Prop := (fun b => gW X mX10_restore 45 [some (.ref l0), none] [] b.1 b.2 Q mc ms)
def F_X10_restore_20 (l0 : Nat) : Int32 × pS → Option ((Int32 × pS) ⊕ (pS)) := fun a => if (1709 : Int32) ≤ a.1 then (some (.inr a.2)) else ((oGA a.2 l0 10 1).bind fun x5 => (oGA a.2 l0 10 2).bind fun x7 => (oAI a.2 x7 .int a.1).bind fun x9 => (oSI a.2 x5 .int a.1 x9).bind fun S11 => some (.inl (a.1 + (1 : Int32), S11)))
set_option maxRecDepth 100000 in
set_option maxHeartbeats 4000000 in
theorem W_X10_restore_20 {X : pX} {Q : pO → Nat → pF → Prop} {mc ms : Nat} (l0 : Nat) : ∀ (a : Int32 × pS) (r : (Int32 × pS) ⊕ (pS)), F_X10_restore_20 l0 a = some r → Sum.elim (fun a' => gW X mX10_restore 20 (L_X10_restore_20 l0 a') [] (s_X10_restore_20 l0 a').1 (s_X10_restore_20 l0 a').2 Q mc ms) (K_X10_restore_20 X Q mc ms l0) r → gW X mX10_restore 20 (L_X10_restore_20 l0 a) [] (s_X10_restore_20 l0 a).1 (s_X10_restore_20 l0 a).2 Q mc ms := by
  intro a r hf hk
  obtain ⟨l1, S⟩ := a
  unfold F_X10_restore_20 at hf
  try dsimp only at hf
  change gW _ _ _ [some (.ref l0), some (.int l1)] _ S.1 S.2 _ _ _
  refine r_iload_n (pc := 20) dX10_restore_20 rfl ?_
  refine r_sipush (pc := 21) (1709 : Int32) dX10_restore_21 (by decide) ?_
  refine r_icmp_ge (pc := 24) 45 dX10_restore_24 (by decide) (fun hc => ?_) (fun hc => ?_)
  · rw [if_pos hc] at hf
    cases hf
    exact gW.weak (by simp [gle]) hk
  · rw [if_neg hc] at hf
    refine r_aload_n (pc := 27) dX10_restore_27 rfl ?_
    obtain ⟨x5, e6, hf⟩ := obind hf
    refine q_getA (pc := 28) dX10_restore_28 gX10_7 e6 ?_
    refine r_iload_n (pc := 31) dX10_restore_31 rfl ?_
    refine r_aload_n (pc := 32) dX10_restore_32 rfl ?_
    obtain ⟨x7, e8, hf⟩ := obind hf
    refine q_getA (pc := 33) dX10_restore_33 gX10_13 e8 ?_
    refine r_iload_n (pc := 36) dX10_restore_36 rfl ?_
    obtain ⟨x9, e10, hf⟩ := obind hf
    refine q_iald (pc := 37) dX10_restore_37 e10 ?_
    obtain ⟨S11, e12, hf⟩ := obind hf
    refine q_iast (pc := 38) dX10_restore_38 e12 ?_
    refine r_iinc (pc := 39) dX10_restore_39 rfl (by decide) ?_
    change gW _ _ _ [some (.ref l0), some (.int (l1 + (1 : Int32)))] _ _ _ _ _ _
    refine r_goto (pc := 42) 20 dX10_restore_42 (by decide) ?_
    cases hf
    exact gW.weak (by simp [gle]) hk
def F_X10_restore (S : pS) (a0 : Nat) : Option (Int32 × pS) := (oF S a0 10).bind fun _ => (oPI S a0 10 0 (0 : Int32)).bind fun S1 => (oGI S1 a0 10 6).bind fun x3 => if ¬ x3 = 0 then ((iter (F_X10_restore_20 a0) fu ((0 : Int32), S1)).bind fun r13 => (oPI r13 a0 10 5 (0 : Int32)).bind fun S15 => (F_X10_checksHoists S15 a0).bind fun q17 => (F_X10_items q17 a0).bind fun q19 => some (q19, q17)) else ((F_X10_fails S1 a0 (1 : Int32)).bind fun q21 => some (q21.1, q21.2))
set_option maxRecDepth 100000 in
set_option maxHeartbeats 4000000 in
theorem C_X10_restore {X : pX} {Q : pO → Nat → pF → Prop} (S : pS) (a0 : Nat) (r : Int32 × pS) (hf : F_X10_restore S a0 = some r) (hk : Q (.inl (some (.int r.1))) r.2.1 r.2.2) : gC X mX10_restore [.ref a0] S.1 S.2 Q 0 0 := by
  refine gC_of (by decide) (Nat.le_of_ble_eq_true rfl) ?_
  change gW _ _ _ [some (.ref a0), none] _ _ _ _ _ _
  unfold F_X10_restore at hf
  obtain ⟨_, _, hf⟩ := obind hf
  refine r_aload_n (pc := 0) dX10_restore_0 rfl ?_
  refine r_iconst (pc := 1) (0 : Int32) dX10_restore_1 (by decide) ?_
  obtain ⟨S1, e2, hf⟩ := obind hf
  refine q_putI (pc := 2) dX10_restore_2 pX10_139 rfl e2 ?_
  refine r_aload_n (pc := 5) dX10_restore_5 rfl ?_
  obtain ⟨x3, e4, hf⟩ := obind hf
  refine q_getI (pc := 6) dX10_restore_6 gX10_366 e4 ?_
  refine r_if_ne (pc := 9) 18 dX10_restore_9 (by decide) (fun hc => ?_) (fun hc => ?_)
  · rw [if_pos hc] at hf
    refine r_iconst (pc := 18) (0 : Int32) dX10_restore_18 (by decide) ?_
    refine r_istore_n (pc := 19) dX10_restore_19 (by decide) ?_
    change gW _ _ _ [some (.ref a0), some (.int (0 : Int32))] _ _ _ _ _ _
    obtain ⟨r13, e14, hf⟩ := obind hf
    refine gW.weak (ls' := [some (.ref a0), some (.int (0 : Int32))]) (by simp [gle]) ?_
    refine g_iter (L := L_X10_restore_20 a0) (s := s_X10_restore_20 a0) (K := K_X10_restore_20 X Q _ _ a0) (W_X10_restore_20 a0) fu ((0 : Int32), S1) _ e14 ?_
    show gW _ _ 45 [some (.ref a0), none] [] r13.1 r13.2 _ _ _
    refine r_aload_n (pc := 45) dX10_restore_45 rfl ?_
    refine r_iconst (pc := 46) (0 : Int32) dX10_restore_46 (by decide) ?_
    obtain ⟨S15, e16, hf⟩ := obind hf
    refine q_putI (pc := 47) dX10_restore_47 pX10_157 rfl e16 ?_
    refine r_aload_n (pc := 50) dX10_restore_50 rfl ?_
    obtain ⟨q17, e18, hf⟩ := obind hf
    refine q_callV (pc := 51) (v := none) (S' := q17) mX10_checksHoists 10 [] dX10_restore_51 kX10_160 fX10_checksHoists iX10_checksHoists ⟨by decide, by decide⟩ rfl rfl rfl (Nat.le_of_ble_eq_true rfl) (og e18) (mc1 := 0) (ms1 := 0) (mc2 := 0) (ms2 := 0) (by decide) (by decide) (C_X10_checksHoists S15 a0 q17 e18 (qR_mk _ _)) ?_
    refine r_aload_n (pc := 54) dX10_restore_54 rfl ?_
    obtain ⟨q19, e20, hf⟩ := obind hf
    refine q_callV (pc := 55) (v := some (.int q19)) (S' := q17) mX10_items 10 [] dX10_restore_55 kX10_190 fX10_items iX10_items ⟨by decide, by decide⟩ rfl rfl rfl (Nat.le_of_ble_eq_true rfl) (og e20) (mc1 := 0) (ms1 := 0) (mc2 := 0) (ms2 := 0) (by decide) (by decide) (C_X10_items q17 a0 q19 e20 (qR_mk _ _)) ?_
    change gW _ _ _ _ (.int q19 :: _) _ _ _ _ _
    refine r_ireturn (pc := 58) .int dX10_restore_58 rfl rfl ?_
    cases hf
    exact hk
  · rw [if_neg hc] at hf
    refine r_aload_n (pc := 12) dX10_restore_12 rfl ?_
    refine r_iconst (pc := 13) (1 : Int32) dX10_restore_13 (by decide) ?_
    obtain ⟨q21, e22, hf⟩ := obind hf
    refine q_callV (pc := 14) (v := some (.int q21.1)) (S' := q21.2) mX10_fails 10 [.int (1 : Int32)] dX10_restore_14 kX10_186 fX10_fails iX10_fails ⟨by decide, by decide⟩ rfl rfl rfl (Nat.le_of_ble_eq_true rfl) (og e22) (mc1 := 0) (ms1 := 0) (mc2 := 0) (ms2 := 0) (by decide) (by decide) (C_X10_fails S1 a0 (1 : Int32) q21 e22 (qR_mk _ _)) ?_
    change gW _ _ _ _ (.int q21.1 :: _) _ _ _ _ _
    refine r_ireturn (pc := 17) .int dX10_restore_17 rfl rfl ?_
    cases hf
    exact hk
