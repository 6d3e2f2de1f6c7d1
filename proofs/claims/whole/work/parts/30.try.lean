def F_X9_contains (S : pS) (a0 : Int64) (a1 : Int32) : Option (Int32) := if (lg_cmp (((a0.toUInt64 >>> (a1.toInt64.toUInt64 &&& Int64.toUInt64 63)).toInt64) &&& (1 : Int64)) (0 : Int64)) = 0 then (some (0 : Int32)) else (some (1 : Int32))
set_option maxRecDepth 100000 in
set_option maxHeartbeats 4000000 in
theorem C_X9_contains {X : pX} {Q : pO → Nat → pF → Prop} (S : pS) (a0 : Int64) (a1 : Int32) (r : Int32) (hf : F_X9_contains S a0 a1 = some r) (hk : Q (.inl (some (.int r))) S.1 S.2) : gC X mX9_contains [.long a0, .int a1] S.1 S.2 Q 0 0 := by
  refine gC_of (by decide) (Nat.le_of_ble_eq_true rfl) ?_
  change gW _ _ _ [some (.long a0), none, some (.int a1)] _ _ _ _ _ _
  unfold F_X9_contains at hf
  refine r_lload_n (pc := 0) dX9_contains_0 rfl ?_
  refine r_iload_n (pc := 1) dX9_contains_1 rfl ?_
  refine r_lushr (pc := 2) dX9_contains_2 ?_
  refine r_lconst (pc := 3) (1 : Int64) dX9_contains_3 (by decide) ?_
  refine r_land (pc := 4) dX9_contains_4 ?_
  refine r_lconst (pc := 5) (0 : Int64) dX9_contains_5 (by decide) ?_
  refine r_lcmp (pc := 6) dX9_contains_6 ?_
  refine r_if_eq (pc := 7) 14 dX9_contains_7 (by decide) (fun hc => ?_) (fun hc => ?_)
  · rw [if_pos hc] at hf
    refine r_iconst (pc := 14) (0 : Int32) dX9_contains_14 (by decide) ?_
    refine r_ireturn (pc := 15) .boolean dX9_contains_15 rfl rfl ?_
    cases hf
    exact hk
  · rw [if_neg hc] at hf
    refine r_iconst (pc := 10) (1 : Int32) dX9_contains_10 (by decide) ?_
    refine r_goto (pc := 11) 15 dX9_contains_11 (by decide) ?_
    refine r_ireturn (pc := 15) .boolean dX9_contains_15 rfl rfl ?_
    cases hf
    exact hk
def F_X8_holds (S : pS) (a0 : Nat) (a1 : Int32) : Option (Int32) := (oF S a0 8).bind fun _ => if a1 < 0 then (some (0 : Int32)) else (if (61 : Int32) ≤ a1 then (some (0 : Int32)) else ((oGJ S a0 8 6).bind fun x1 => (F_X9_contains S x1 a1).bind fun q3 => if q3 = 0 then (some (0 : Int32)) else (some (1 : Int32))))
set_option maxRecDepth 100000 in
set_option maxHeartbeats 4000000 in
theorem C_X8_holds {X : pX} {Q : pO → Nat → pF → Prop} (S : pS) (a0 : Nat) (a1 : Int32) (r : Int32) (hf : F_X8_holds S a0 a1 = some r) (hk : Q (.inl (some (.int r))) S.1 S.2) : gC X mX8_holds [.ref a0, .int a1] S.1 S.2 Q 0 0 := by
  refine gC_of (by decide) (Nat.le_of_ble_eq_true rfl) ?_
  change gW _ _ _ [some (.ref a0), some (.int a1)] _ _ _ _ _ _
  unfold F_X8_holds at hf
  obtain ⟨_, _, hf⟩ := obind hf
  refine r_iload_n (pc := 0) dX8_holds_0 rfl ?_
  refine r_if_lt (pc := 1) 25 dX8_holds_1 (by decide) (fun hc => ?_) (fun hc => ?_)
  · rw [if_pos hc] at hf
    refine r_iconst (pc := 25) (0 : Int32) dX8_holds_25 (by decide) ?_
    refine r_ireturn (pc := 26) .boolean dX8_holds_26 rfl rfl ?_
    cases hf
    exact hk
  · rw [if_neg hc] at hf
    refine r_iload_n (pc := 4) dX8_holds_4 rfl ?_
    refine r_bipush (pc := 5) (61 : Int32) dX8_holds_5 (by decide) ?_
    refine r_icmp_ge (pc := 7) 25 dX8_holds_7 (by decide) (fun hc => ?_) (fun hc => ?_)
    · rw [if_pos hc] at hf
      refine r_iconst (pc := 25) (0 : Int32) dX8_holds_25 (by decide) ?_
      refine r_ireturn (pc := 26) .boolean dX8_holds_26 rfl rfl ?_
      cases hf
      exact hk
    · rw [if_neg hc] at hf
      refine r_aload_n (pc := 10) dX8_holds_10 rfl ?_
      obtain ⟨x1, e2, hf⟩ := obind hf
      refine q_getJ (pc := 11) dX8_holds_11 gX8_31 e2 ?_
      refine r_iload_n (pc := 14) dX8_holds_14 rfl ?_
      obtain ⟨q3, e4, hf⟩ := obind hf
      refine q_callSN (pc := 15) (v := some (.int q3)) (S' := S) mX9_contains [.long x1, .int a1] dX8_holds_15 kX8_51 fX9_contains sX9_contains ⟨by decide, by decide⟩ rfl rfl (Nat.le_of_ble_eq_true rfl) (mc1 := 0) (ms1 := 0) (mc2 := 0) (ms2 := 0) (by decide) (by decide) (C_X9_contains S x1 a1 q3 e4 (qR_mk _ _)) ?_
      change gW _ _ _ _ (.int q3 :: _) _ _ _ _ _
      refine r_if_eq (pc := 18) 25 dX8_holds_18 (by decide) (fun hc => ?_) (fun hc => ?_)
      · rw [if_pos hc] at hf
        refine r_iconst (pc := 25) (0 : Int32) dX8_holds_25 (by decide) ?_
        refine r_ireturn (pc := 26) .boolean dX8_holds_26 rfl rfl ?_
        cases hf
        exact hk
      · rw [if_neg hc] at hf
        refine r_iconst (pc := 21) (1 : Int32) dX8_holds_21 (by decide) ?_
        refine r_goto (pc := 22) 26 dX8_holds_22 (by decide) ?_
        refine r_ireturn (pc := 26) .boolean dX8_holds_26 rfl rfl ?_
        cases hf
        exact hk
def F_X8_childCount (S : pS) (a0 : Nat) (a1 : Int32) : Option (Int32) := (oF S a0 8).bind fun _ => (oGA S a0 8 0).bind fun x1 => (oAI S x1 .int a1).bind fun x3 => some x3
set_option maxRecDepth 100000 in
set_option maxHeartbeats 4000000 in
theorem C_X8_childCount {X : pX} {Q : pO → Nat → pF → Prop} (S : pS) (a0 : Nat) (a1 : Int32) (r : Int32) (hf : F_X8_childCount S a0 a1 = some r) (hk : Q (.inl (some (.int r))) S.1 S.2) : gC X mX8_childCount [.ref a0, .int a1] S.1 S.2 Q 0 0 := by
  refine gC_of (by decide) (Nat.le_of_ble_eq_true rfl) ?_
  change gW _ _ _ [some (.ref a0), some (.int a1)] _ _ _ _ _ _
  unfold F_X8_childCount at hf
  obtain ⟨_, _, hf⟩ := obind hf
  refine r_aload_n (pc := 0) dX8_childCount_0 rfl ?_
  obtain ⟨x1, e2, hf⟩ := obind hf
  refine q_getA (pc := 1) dX8_childCount_1 gX8_9 e2 ?_
  refine r_iload_n (pc := 4) dX8_childCount_4 rfl ?_
  obtain ⟨x3, e4, hf⟩ := obind hf
  refine q_iald (pc := 5) dX8_childCount_5 e4 ?_
  refine r_ireturn (pc := 6) .int dX8_childCount_6 rfl rfl ?_
  cases hf
  exact hk
def F_X8_childAt (S : pS) (a0 : Nat) (a1 : Int32) (a2 : Int32) : Option (Int32) := (oF S a0 8).bind fun _ => (oGA S a0 8 1).bind fun x1 => (oAI S x1 .int ((a1 * (12 : Int32)) + a2)).bind fun x3 => some x3
set_option maxRecDepth 100000 in
set_option maxHeartbeats 4000000 in
theorem C_X8_childAt {X : pX} {Q : pO → Nat → pF → Prop} (S : pS) (a0 : Nat) (a1 : Int32) (a2 : Int32) (r : Int32) (hf : F_X8_childAt S a0 a1 a2 = some r) (hk : Q (.inl (some (.int r))) S.1 S.2) : gC X mX8_childAt [.ref a0, .int a1, .int a2] S.1 S.2 Q 0 0 := by
  refine gC_of (by decide) (Nat.le_of_ble_eq_true rfl) ?_
  change gW _ _ _ [some (.ref a0), some (.int a1), some (.int a2)] _ _ _ _ _ _
  unfold F_X8_childAt at hf
  obtain ⟨_, _, hf⟩ := obind hf
  refine r_aload_n (pc := 0) dX8_childAt_0 rfl ?_
  obtain ⟨x1, e2, hf⟩ := obind hf
  refine q_getA (pc := 1) dX8_childAt_1 gX8_15 e2 ?_
  refine r_iload_n (pc := 4) dX8_childAt_4 rfl ?_
  refine r_bipush (pc := 5) (12 : Int32) dX8_childAt_5 (by decide) ?_
  refine r_imul (pc := 7) dX8_childAt_7 ?_
  refine r_iload_n (pc := 8) dX8_childAt_8 rfl ?_
  refine r_iadd (pc := 9) dX8_childAt_9 ?_
  obtain ⟨x3, e4, hf⟩ := obind hf
  refine q_iald (pc := 10) dX8_childAt_10 e4 ?_
  refine r_ireturn (pc := 11) .int dX8_childAt_11 rfl rfl ?_
  cases hf
  exact hk
abbrev L_X8_hasChild_2 (l0 : Nat) (l1 : Int32) (l2 : Int32) (S : pS) : Int32 → List (Option Value) := fun a => [some (.ref l0), some (.int l1), some (.int l2), some (.int a)]
abbrev s_X8_hasChild_2 (l0 : Nat) (l1 : Int32) (l2 : Int32) (S : pS) : Int32 → pS := fun a => S
abbrev K_X8_hasChild_2 (X : pX) (Q : pO → Nat → pF → Prop) (mc ms : Nat) (l0 : Nat) (l1 : Int32) (l2 : Int32) (S : pS) : (Unit) ⊕ (Unit) → Prop := (Sum.elim (fun b => gW X mX8_hasChild 22 [some (.ref l0), some (.int l1), some (.int l2), none] [] S.1 S.2 Q mc ms) (fun b => gW X mX8_hasChild 30 [some (.ref l0), some (.int l1), some (.int l2), none] [] S.1 S.2 Q mc ms))
def F_X8_hasChild_2 (l0 : Nat) (l1 : Int32) (l2 : Int32) (S : pS) : Int32 → Option ((Int32) ⊕ ((Unit) ⊕ (Unit))) := fun a => (oGA S l0 8 0).bind fun x1 => (oAI S x1 .int l1).bind fun x3 => if x3 ≤ a then (some (.inr (.inr ()))) else ((F_X8_childAt S l0 l1 a).bind fun q5 => if ¬ q5 = l2 then (some (.inl (a + (1 : Int32)))) else (some (.inr (.inl ()))))
set_option maxRecDepth 100000 in
set_option maxHeartbeats 4000000 in
theorem W_X8_hasChild_2 {X : pX} {Q : pO → Nat → pF → Prop} {mc ms : Nat} (l0 : Nat) (l1 : Int32) (l2 : Int32) (S : pS) : ∀ (a : Int32) (r : (Int32) ⊕ ((Unit) ⊕ (Unit))), F_X8_hasChild_2 l0 l1 l2 S a = some r → Sum.elim (fun a' => gW X mX8_hasChild 2 (L_X8_hasChild_2 l0 l1 l2 S a') [] (s_X8_hasChild_2 l0 l1 l2 S a').1 (s_X8_hasChild_2 l0 l1 l2 S a').2 Q mc ms) (K_X8_hasChild_2 X Q mc ms l0 l1 l2 S) r → gW X mX8_hasChild 2 (L_X8_hasChild_2 l0 l1 l2 S a) [] (s_X8_hasChild_2 l0 l1 l2 S a).1 (s_X8_hasChild_2 l0 l1 l2 S a).2 Q mc ms := by
  intro a r hf hk
  rename' a => l3
  unfold F_X8_hasChild_2 at hf
  dsimp only at hf
  change gW _ _ _ [some (.ref l0), some (.int l1), some (.int l2), some (.int l3)] _ S.1 S.2 _ _ _
  refine r_iload_n (pc := 2) dX8_hasChild_2 rfl ?_
  refine r_aload_n (pc := 3) dX8_hasChild_3 rfl ?_
  obtain ⟨x1, e2, hf⟩ := obind hf
  refine q_getA (pc := 4) dX8_hasChild_4 gX8_9 e2 ?_
  refine r_iload_n (pc := 7) dX8_hasChild_7 rfl ?_
  obtain ⟨x3, e4, hf⟩ := obind hf
  refine q_iald (pc := 8) dX8_hasChild_8 e4 ?_
  refine r_icmp_ge (pc := 9) 30 dX8_hasChild_9 (by decide) (fun hc => ?_) (fun hc => ?_)
  · rw [if_pos hc] at hf
    cases hf
    exact gW.weak (by simp [gle]) hk
  · rw [if_neg hc] at hf
    refine r_aload_n (pc := 12) dX8_hasChild_12 rfl ?_
    refine r_iload_n (pc := 13) dX8_hasChild_13 rfl ?_
    refine r_iload_n (pc := 14) dX8_hasChild_14 rfl ?_
    obtain ⟨q5, e6, hf⟩ := obind hf
    refine q_callV (pc := 15) (v := some (.int q5)) (S' := S) mX8_childAt 8 [.int l1, .int l3] dX8_hasChild_15 kX8_71 fX8_childAt iX8_childAt ⟨by decide, by decide⟩ rfl rfl rfl (Nat.le_of_ble_eq_true rfl) (og e6) (mc1 := 0) (ms1 := 0) (mc2 := mc) (ms2 := ms) (by omega) (by omega) (C_X8_childAt S l0 l1 l3 q5 e6 (qR_mk _ _)) ?_
    change gW _ _ _ _ (.int q5 :: _) _ _ _ _ _
    refine r_iload_n (pc := 18) dX8_hasChild_18 rfl ?_
    refine r_icmp_ne (pc := 19) 24 dX8_hasChild_19 (by decide) (fun hc => ?_) (fun hc => ?_)
    · rw [if_pos hc] at hf
      refine r_iinc (pc := 24) dX8_hasChild_24 rfl (by decide) ?_
      change gW _ _ _ [some (.ref l0), some (.int l1), some (.int l2), some (.int (l3 + (1 : Int32)))] _ _ _ _ _ _
      refine r_goto (pc := 27) 2 dX8_hasChild_27 (by decide) ?_
      cases hf
      exact gW.weak (by simp [gle]) hk
    · rw [if_neg hc] at hf
      cases hf
      exact gW.weak (by simp [gle]) hk
def F_X8_hasChild (S : pS) (a0 : Nat) (a1 : Int32) (a2 : Int32) : Option (Int32) := (oF S a0 8).bind fun _ => (iter (F_X8_hasChild_2 a0 a1 a2 S) fu (0 : Int32)).bind fun r7 => Sum.elim (fun q9 => some (1 : Int32)) (fun q9 => some (0 : Int32)) r7
set_option maxRecDepth 100000 in
set_option maxHeartbeats 4000000 in
theorem C_X8_hasChild {X : pX} {Q : pO → Nat → pF → Prop} (S : pS) (a0 : Nat) (a1 : Int32) (a2 : Int32) (r : Int32) (hf : F_X8_hasChild S a0 a1 a2 = some r) (hk : Q (.inl (some (.int r))) S.1 S.2) : gC X mX8_hasChild [.ref a0, .int a1, .int a2] S.1 S.2 Q 0 0 := by
  refine gC_of (by decide) (Nat.le_of_ble_eq_true rfl) ?_
  change gW _ _ _ [some (.ref a0), some (.int a1), some (.int a2), none] _ _ _ _ _ _
  unfold F_X8_hasChild at hf
  obtain ⟨_, _, hf⟩ := obind hf
  refine r_iconst (pc := 0) (0 : Int32) dX8_hasChild_0 (by decide) ?_
  refine r_istore_n (pc := 1) dX8_hasChild_1 (by decide) ?_
  change gW _ _ _ [some (.ref a0), some (.int a1), some (.int a2), some (.int (0 : Int32))] _ _ _ _ _ _
  obtain ⟨r7, e8, hf⟩ := obind hf
  refine gW.weak (ls' := [some (.ref a0), some (.int a1), some (.int a2), some (.int (0 : Int32))]) (by simp [gle]) ?_
  refine g_iter (L := L_X8_hasChild_2 a0 a1 a2 S) (s := s_X8_hasChild_2 a0 a1 a2 S) (K := K_X8_hasChild_2 X Q _ _ a0 a1 a2 S) (W_X8_hasChild_2 a0 a1 a2 S) fu (0 : Int32) _ e8 ?_
  rcases r7 with q9 | q9
  · replace hf := hf
    show gW _ _ 22 [some (.ref a0), some (.int a1), some (.int a2), none] [] S.1 S.2 _ _ _
    refine r_iconst (pc := 22) (1 : Int32) dX8_hasChild_22 (by decide) ?_
    refine r_ireturn (pc := 23) .boolean dX8_hasChild_23 rfl rfl ?_
    cases hf
    exact hk
  · replace hf := hf
    show gW _ _ 30 [some (.ref a0), some (.int a1), some (.int a2), none] [] S.1 S.2 _ _ _
    refine r_iconst (pc := 30) (0 : Int32) dX8_hasChild_30 (by decide) ?_
    refine r_ireturn (pc := 31) .boolean dX8_hasChild_31 rfl rfl ?_
    cases hf
    exact hk
