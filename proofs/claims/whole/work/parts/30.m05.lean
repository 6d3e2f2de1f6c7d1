abbrev L_X8_parentAt_5 (l0 : Nat) (l1 : Int32) (l2 : Int32) (S : pS) : Int32 × Int32 → List (Option Value) := fun a => [some (.ref l0), some (.int l1), some (.int l2), some (.int a.1), some (.int a.2)]
abbrev s_X8_parentAt_5 (l0 : Nat) (l1 : Int32) (l2 : Int32) (S : pS) : Int32 × Int32 → pS := fun a => S
abbrev K_X8_parentAt_5 (X : pX) (Q : pO → Nat → pF → Prop) (mc ms : Nat) (l0 : Nat) (l1 : Int32) (l2 : Int32) (S : pS) : (Int32) ⊕ (Unit) → Prop := (Sum.elim (fun b => gW X mX8_parentAt 36 [some (.ref l0), some (.int l1), some (.int l2), none, some (.int b)] [] S.1 S.2 Q mc ms) (fun b => gW X mX8_parentAt 48 [some (.ref l0), some (.int l1), some (.int l2), none, none] [] S.1 S.2 Q mc ms))
def F_X8_parentAt_5 (l0 : Nat) (l1 : Int32) (l2 : Int32) (S : pS) : Int32 × Int32 → Option ((Int32 × Int32) ⊕ ((Int32) ⊕ (Unit))) := fun a => if (61 : Int32) ≤ a.2 then (some (.inr (.inr ()))) else ((F_X8_holds S l0 a.2).bind fun q1 => if q1 = 0 then (some (.inl (a.1, a.2 + (1 : Int32)))) else ((F_X8_hasChild S l0 a.2 l1).bind fun q3 => if q3 = 0 then (some (.inl (a.1, a.2 + (1 : Int32)))) else (if ¬ a.1 = l2 then (some (.inl (a.1 + (1 : Int32), a.2 + (1 : Int32)))) else (some (.inr (.inl a.2))))))
set_option maxRecDepth 100000 in
set_option maxHeartbeats 4000000 in
theorem W_X8_parentAt_5 {X : pX} {Q : pO → Nat → pF → Prop} {mc ms : Nat} (l0 : Nat) (l1 : Int32) (l2 : Int32) (S : pS) : ∀ (a : Int32 × Int32) (r : (Int32 × Int32) ⊕ ((Int32) ⊕ (Unit))), F_X8_parentAt_5 l0 l1 l2 S a = some r → Sum.elim (fun a' => gW X mX8_parentAt 5 (L_X8_parentAt_5 l0 l1 l2 S a') [] (s_X8_parentAt_5 l0 l1 l2 S a').1 (s_X8_parentAt_5 l0 l1 l2 S a').2 Q mc ms) (K_X8_parentAt_5 X Q mc ms l0 l1 l2 S) r → gW X mX8_parentAt 5 (L_X8_parentAt_5 l0 l1 l2 S a) [] (s_X8_parentAt_5 l0 l1 l2 S a).1 (s_X8_parentAt_5 l0 l1 l2 S a).2 Q mc ms := by
  intro a r hf hk
  obtain ⟨l3, l4⟩ := a
  unfold F_X8_parentAt_5 at hf
  try dsimp only at hf
  change gW _ _ _ [some (.ref l0), some (.int l1), some (.int l2), some (.int l3), some (.int l4)] _ S.1 S.2 _ _ _
  refine r_iload (pc := 5) dX8_parentAt_5 rfl ?_
  refine r_bipush (pc := 7) (61 : Int32) dX8_parentAt_7 (by decide) ?_
  refine r_icmp_ge (pc := 9) 48 dX8_parentAt_9 (by decide) (fun hc => ?_) (fun hc => ?_)
  · rw [if_pos hc] at hf
    cases hf
    exact gW.weak (by simp [gle]) hk
  · rw [if_neg hc] at hf
    refine r_aload_n (pc := 12) dX8_parentAt_12 rfl ?_
    refine r_iload (pc := 13) dX8_parentAt_13 rfl ?_
    obtain ⟨q1, e2, hf⟩ := obind hf
    refine q_callV (pc := 15) (v := some (.int q1)) (S' := S) mX8_holds 8 [.int l4] dX8_parentAt_15 kX8_75 fX8_holds iX8_holds ⟨by decide, by decide⟩ rfl rfl rfl (Nat.le_of_ble_eq_true rfl) (og e2) (mc1 := 0) (ms1 := 0) (mc2 := mc) (ms2 := ms) (by omega) (by omega) (C_X8_holds S l0 l4 q1 e2 (qR_mk _ _)) ?_
    change gW _ _ _ _ (.int q1 :: _) _ _ _ _ _
    refine r_if_eq (pc := 18) 42 dX8_parentAt_18 (by decide) (fun hc => ?_) (fun hc => ?_)
    · rw [if_pos hc] at hf
      refine r_iinc (pc := 42) dX8_parentAt_42 rfl (by decide) ?_
      change gW _ _ _ [some (.ref l0), some (.int l1), some (.int l2), some (.int l3), some (.int (l4 + (1 : Int32)))] _ _ _ _ _ _
      refine r_goto (pc := 45) 5 dX8_parentAt_45 (by decide) ?_
      cases hf
      exact gW.weak (by simp [gle]) hk
    · rw [if_neg hc] at hf
      refine r_aload_n (pc := 21) dX8_parentAt_21 rfl ?_
      refine r_iload (pc := 22) dX8_parentAt_22 rfl ?_
      refine r_iload_n (pc := 24) dX8_parentAt_24 rfl ?_
      obtain ⟨q3, e4, hf⟩ := obind hf
      refine q_callV (pc := 25) (v := some (.int q3)) (S' := S) mX8_hasChild 8 [.int l4, .int l1] dX8_parentAt_25 kX8_79 fX8_hasChild iX8_hasChild ⟨by decide, by decide⟩ rfl rfl rfl (Nat.le_of_ble_eq_true rfl) (og e4) (mc1 := 0) (ms1 := 0) (mc2 := mc) (ms2 := ms) (by omega) (by omega) (C_X8_hasChild S l0 l4 l1 q3 e4 (qR_mk _ _)) ?_
      change gW _ _ _ _ (.int q3 :: _) _ _ _ _ _
      refine r_if_eq (pc := 28) 42 dX8_parentAt_28 (by decide) (fun hc => ?_) (fun hc => ?_)
      · rw [if_pos hc] at hf
        refine r_iinc (pc := 42) dX8_parentAt_42 rfl (by decide) ?_
        change gW _ _ _ [some (.ref l0), some (.int l1), some (.int l2), some (.int l3), some (.int (l4 + (1 : Int32)))] _ _ _ _ _ _
        refine r_goto (pc := 45) 5 dX8_parentAt_45 (by decide) ?_
        cases hf
        exact gW.weak (by simp [gle]) hk
      · rw [if_neg hc] at hf
        refine r_iload_n (pc := 31) dX8_parentAt_31 rfl ?_
        refine r_iload_n (pc := 32) dX8_parentAt_32 rfl ?_
        refine r_icmp_ne (pc := 33) 39 dX8_parentAt_33 (by decide) (fun hc => ?_) (fun hc => ?_)
        · rw [if_pos hc] at hf
          refine r_iinc (pc := 39) dX8_parentAt_39 rfl (by decide) ?_
          change gW _ _ _ [some (.ref l0), some (.int l1), some (.int l2), some (.int (l3 + (1 : Int32))), some (.int l4)] _ _ _ _ _ _
          refine r_iinc (pc := 42) dX8_parentAt_42 rfl (by decide) ?_
          change gW _ _ _ [some (.ref l0), some (.int l1), some (.int l2), some (.int (l3 + (1 : Int32))), some (.int (l4 + (1 : Int32)))] _ _ _ _ _ _
          refine r_goto (pc := 45) 5 dX8_parentAt_45 (by decide) ?_
          cases hf
          exact gW.weak (by simp [gle]) hk
        · rw [if_neg hc] at hf
          cases hf
          exact gW.weak (by simp [gle]) hk
def F_X8_parentAt (S : pS) (a0 : Nat) (a1 : Int32) (a2 : Int32) : Option (Int32) := (oF S a0 8).bind fun _ => (iter (F_X8_parentAt_5 a0 a1 a2 S) fu ((0 : Int32), (0 : Int32))).bind fun r5 => Sum.elim (fun q7 => some q7) (fun q7 => some (-1000000 : Int32)) r5
set_option maxRecDepth 100000 in
set_option maxHeartbeats 4000000 in
theorem C_X8_parentAt {X : pX} {Q : pO → Nat → pF → Prop} (S : pS) (a0 : Nat) (a1 : Int32) (a2 : Int32) (r : Int32) (hf : F_X8_parentAt S a0 a1 a2 = some r) (hk : Q (.inl (some (.int r))) S.1 S.2) : gC X mX8_parentAt [.ref a0, .int a1, .int a2] S.1 S.2 Q 0 0 := by
  refine gC_of (by decide) (Nat.le_of_ble_eq_true rfl) ?_
  change gW _ _ _ [some (.ref a0), some (.int a1), some (.int a2), none, none] _ _ _ _ _ _
  unfold F_X8_parentAt at hf
  obtain ⟨_, _, hf⟩ := obind hf
  refine r_iconst (pc := 0) (0 : Int32) dX8_parentAt_0 (by decide) ?_
  refine r_istore_n (pc := 1) dX8_parentAt_1 (by decide) ?_
  change gW _ _ _ [some (.ref a0), some (.int a1), some (.int a2), some (.int (0 : Int32)), none] _ _ _ _ _ _
  refine r_iconst (pc := 2) (0 : Int32) dX8_parentAt_2 (by decide) ?_
  refine r_istore (pc := 3) dX8_parentAt_3 (by decide) ?_
  change gW _ _ _ [some (.ref a0), some (.int a1), some (.int a2), some (.int (0 : Int32)), some (.int (0 : Int32))] _ _ _ _ _ _
  obtain ⟨r5, e6, hf⟩ := obind hf
  refine gW.weak (ls' := [some (.ref a0), some (.int a1), some (.int a2), some (.int (0 : Int32)), some (.int (0 : Int32))]) (by simp [gle]) ?_
  refine g_iter (L := L_X8_parentAt_5 a0 a1 a2 S) (s := s_X8_parentAt_5 a0 a1 a2 S) (K := K_X8_parentAt_5 X Q _ _ a0 a1 a2 S) (W_X8_parentAt_5 a0 a1 a2 S) fu ((0 : Int32), (0 : Int32)) _ e6 ?_
  rcases r5 with q7 | q7
  · replace hf := hf
    show gW _ _ 36 [some (.ref a0), some (.int a1), some (.int a2), none, some (.int q7)] [] S.1 S.2 _ _ _
    refine r_iload (pc := 36) dX8_parentAt_36 rfl ?_
    refine r_ireturn (pc := 38) .int dX8_parentAt_38 rfl rfl ?_
    cases hf
    exact hk
  · replace hf := hf
    show gW _ _ 48 [some (.ref a0), some (.int a1), some (.int a2), none, none] [] S.1 S.2 _ _ _
    refine r_ldc (pc := 48) dX8_parentAt_48 kX8_83 ?_
    refine r_ireturn (pc := 50) .int dX8_parentAt_50 rfl rfl ?_
    cases hf
    exact hk
abbrev L_X8_earliestDay_5 (l0 : Nat) (l1 : Int64) (S : pS) : Int32 × Int32 → List (Option Value) := fun a => [some (.ref l0), some (.long l1), none, some (.int a.1), some (.int a.2), none]
abbrev s_X8_earliestDay_5 (l0 : Nat) (l1 : Int64) (S : pS) : Int32 × Int32 → pS := fun a => S
abbrev K_X8_earliestDay_5 (X : pX) (Q : pO → Nat → pF → Prop) (mc ms : Nat) (l0 : Nat) (l1 : Int64) (S : pS) : Int32 → Prop := (fun b => gW X mX8_earliestDay 56 [some (.ref l0), some (.long l1), none, some (.int b), none, none] [] S.1 S.2 Q mc ms)
def F_X8_earliestDay_5 (l0 : Nat) (l1 : Int64) (S : pS) : Int32 × Int32 → Option ((Int32 × Int32) ⊕ (Int32)) := fun a => if (61 : Int32) ≤ a.2 then (some (.inr a.1)) else ((oGA S l0 8 5).bind fun x1 => (oAI S x1 .int a.2).bind fun x3 => (F_X9_contains S l1 a.2).bind fun q5 => if q5 = 0 then (some (.inl (a.1, a.2 + (1 : Int32)))) else (if x3 = (-1 : Int32) then (some (.inl (a.1, a.2 + (1 : Int32)))) else (if a.1 = (-1 : Int32) then (some (.inl (x3, a.2 + (1 : Int32)))) else (if a.1 ≤ x3 then (some (.inl (a.1, a.2 + (1 : Int32)))) else (some (.inl (x3, a.2 + (1 : Int32))))))))
set_option maxRecDepth 100000 in
set_option maxHeartbeats 4000000 in
theorem W_X8_earliestDay_5 {X : pX} {Q : pO → Nat → pF → Prop} {mc ms : Nat} (l0 : Nat) (l1 : Int64) (S : pS) : ∀ (a : Int32 × Int32) (r : (Int32 × Int32) ⊕ (Int32)), F_X8_earliestDay_5 l0 l1 S a = some r → Sum.elim (fun a' => gW X mX8_earliestDay 5 (L_X8_earliestDay_5 l0 l1 S a') [] (s_X8_earliestDay_5 l0 l1 S a').1 (s_X8_earliestDay_5 l0 l1 S a').2 Q mc ms) (K_X8_earliestDay_5 X Q mc ms l0 l1 S) r → gW X mX8_earliestDay 5 (L_X8_earliestDay_5 l0 l1 S a) [] (s_X8_earliestDay_5 l0 l1 S a).1 (s_X8_earliestDay_5 l0 l1 S a).2 Q mc ms := by
  intro a r hf hk
  obtain ⟨l3, l4⟩ := a
  unfold F_X8_earliestDay_5 at hf
  try dsimp only at hf
  change gW _ _ _ [some (.ref l0), some (.long l1), none, some (.int l3), some (.int l4), none] _ S.1 S.2 _ _ _
  refine r_iload (pc := 5) dX8_earliestDay_5 rfl ?_
  refine r_bipush (pc := 7) (61 : Int32) dX8_earliestDay_7 (by decide) ?_
  refine r_icmp_ge (pc := 9) 56 dX8_earliestDay_9 (by decide) (fun hc => ?_) (fun hc => ?_)
  · rw [if_pos hc] at hf
    cases hf
    exact gW.weak (by simp [gle]) hk
  · rw [if_neg hc] at hf
    refine r_aload_n (pc := 12) dX8_earliestDay_12 rfl ?_
    obtain ⟨x1, e2, hf⟩ := obind hf
    refine q_getA (pc := 13) dX8_earliestDay_13 gX8_28 e2 ?_
    refine r_iload (pc := 16) dX8_earliestDay_16 rfl ?_
    obtain ⟨x3, e4, hf⟩ := obind hf
    refine q_iald (pc := 18) dX8_earliestDay_18 e4 ?_
    refine r_istore (pc := 19) dX8_earliestDay_19 (by decide) ?_
    change gW _ _ _ [some (.ref l0), some (.long l1), none, some (.int l3), some (.int l4), some (.int x3)] _ _ _ _ _ _
    refine r_lload_n (pc := 21) dX8_earliestDay_21 rfl ?_
    refine r_iload (pc := 22) dX8_earliestDay_22 rfl ?_
    obtain ⟨q5, e6, hf⟩ := obind hf
    refine q_callSN (pc := 24) (v := some (.int q5)) (S' := S) mX9_contains [.long l1, .int l4] dX8_earliestDay_24 kX8_51 fX9_contains sX9_contains ⟨by decide, by decide⟩ rfl rfl (Nat.le_of_ble_eq_true rfl) (mc1 := 0) (ms1 := 0) (mc2 := mc) (ms2 := ms) (by omega) (by omega) (C_X9_contains S l1 l4 q5 e6 (qR_mk _ _)) ?_
    change gW _ _ _ _ (.int q5 :: _) _ _ _ _ _
    refine r_if_eq (pc := 27) 50 dX8_earliestDay_27 (by decide) (fun hc => ?_) (fun hc => ?_)
    · rw [if_pos hc] at hf
      refine r_iinc (pc := 50) dX8_earliestDay_50 rfl (by decide) ?_
      change gW _ _ _ [some (.ref l0), some (.long l1), none, some (.int l3), some (.int (l4 + (1 : Int32))), some (.int x3)] _ _ _ _ _ _
      refine r_goto (pc := 53) 5 dX8_earliestDay_53 (by decide) ?_
      cases hf
      exact gW.weak (by simp [gle]) hk
    · rw [if_neg hc] at hf
      refine r_iload (pc := 30) dX8_earliestDay_30 rfl ?_
      refine r_iconst (pc := 32) (-1 : Int32) dX8_earliestDay_32 (by decide) ?_
      refine r_icmp_eq (pc := 33) 50 dX8_earliestDay_33 (by decide) (fun hc => ?_) (fun hc => ?_)
      · rw [if_pos hc] at hf
        refine r_iinc (pc := 50) dX8_earliestDay_50 rfl (by decide) ?_
        change gW _ _ _ [some (.ref l0), some (.long l1), none, some (.int l3), some (.int (l4 + (1 : Int32))), some (.int x3)] _ _ _ _ _ _
        refine r_goto (pc := 53) 5 dX8_earliestDay_53 (by decide) ?_
        cases hf
        exact gW.weak (by simp [gle]) hk
      · rw [if_neg hc] at hf
        refine r_iload_n (pc := 36) dX8_earliestDay_36 rfl ?_
        refine r_iconst (pc := 37) (-1 : Int32) dX8_earliestDay_37 (by decide) ?_
        refine r_icmp_eq (pc := 38) 47 dX8_earliestDay_38 (by decide) (fun hc => ?_) (fun hc => ?_)
        · rw [if_pos hc] at hf
          refine r_iload (pc := 47) dX8_earliestDay_47 rfl ?_
          refine r_istore_n (pc := 49) dX8_earliestDay_49 (by decide) ?_
          change gW _ _ _ [some (.ref l0), some (.long l1), none, some (.int x3), some (.int l4), some (.int x3)] _ _ _ _ _ _
          refine r_iinc (pc := 50) dX8_earliestDay_50 rfl (by decide) ?_
          change gW _ _ _ [some (.ref l0), some (.long l1), none, some (.int x3), some (.int (l4 + (1 : Int32))), some (.int x3)] _ _ _ _ _ _
          refine r_goto (pc := 53) 5 dX8_earliestDay_53 (by decide) ?_
          cases hf
          exact gW.weak (by simp [gle]) hk
        · rw [if_neg hc] at hf
          refine r_iload (pc := 41) dX8_earliestDay_41 rfl ?_
          refine r_iload_n (pc := 43) dX8_earliestDay_43 rfl ?_
          refine r_icmp_ge (pc := 44) 50 dX8_earliestDay_44 (by decide) (fun hc => ?_) (fun hc => ?_)
          · rw [if_pos hc] at hf
            refine r_iinc (pc := 50) dX8_earliestDay_50 rfl (by decide) ?_
            change gW _ _ _ [some (.ref l0), some (.long l1), none, some (.int l3), some (.int (l4 + (1 : Int32))), some (.int x3)] _ _ _ _ _ _
            refine r_goto (pc := 53) 5 dX8_earliestDay_53 (by decide) ?_
            cases hf
            exact gW.weak (by simp [gle]) hk
          · rw [if_neg hc] at hf
            refine r_iload (pc := 47) dX8_earliestDay_47 rfl ?_
            refine r_istore_n (pc := 49) dX8_earliestDay_49 (by decide) ?_
            change gW _ _ _ [some (.ref l0), some (.long l1), none, some (.int x3), some (.int l4), some (.int x3)] _ _ _ _ _ _
            refine r_iinc (pc := 50) dX8_earliestDay_50 rfl (by decide) ?_
            change gW _ _ _ [some (.ref l0), some (.long l1), none, some (.int x3), some (.int (l4 + (1 : Int32))), some (.int x3)] _ _ _ _ _ _
            refine r_goto (pc := 53) 5 dX8_earliestDay_53 (by decide) ?_
            cases hf
            exact gW.weak (by simp [gle]) hk
def F_X8_earliestDay (S : pS) (a0 : Nat) (a1 : Int64) : Option (Int32) := (oF S a0 8).bind fun _ => (iter (F_X8_earliestDay_5 a0 a1 S) fu ((-1 : Int32), (0 : Int32))).bind fun r7 => some r7
set_option maxRecDepth 100000 in
set_option maxHeartbeats 4000000 in
theorem C_X8_earliestDay {X : pX} {Q : pO → Nat → pF → Prop} (S : pS) (a0 : Nat) (a1 : Int64) (r : Int32) (hf : F_X8_earliestDay S a0 a1 = some r) (hk : Q (.inl (some (.int r))) S.1 S.2) : gC X mX8_earliestDay [.ref a0, .long a1] S.1 S.2 Q 0 0 := by
  refine gC_of (by decide) (Nat.le_of_ble_eq_true rfl) ?_
  change gW _ _ _ [some (.ref a0), some (.long a1), none, none, none, none] _ _ _ _ _ _
  unfold F_X8_earliestDay at hf
  obtain ⟨_, _, hf⟩ := obind hf
  refine r_iconst (pc := 0) (-1 : Int32) dX8_earliestDay_0 (by decide) ?_
  refine r_istore_n (pc := 1) dX8_earliestDay_1 (by decide) ?_
  change gW _ _ _ [some (.ref a0), some (.long a1), none, some (.int (-1 : Int32)), none, none] _ _ _ _ _ _
  refine r_iconst (pc := 2) (0 : Int32) dX8_earliestDay_2 (by decide) ?_
  refine r_istore (pc := 3) dX8_earliestDay_3 (by decide) ?_
  change gW _ _ _ [some (.ref a0), some (.long a1), none, some (.int (-1 : Int32)), some (.int (0 : Int32)), none] _ _ _ _ _ _
  obtain ⟨r7, e8, hf⟩ := obind hf
  refine gW.weak (ls' := [some (.ref a0), some (.long a1), none, some (.int (-1 : Int32)), some (.int (0 : Int32)), none]) (by simp [gle]) ?_
  refine g_iter (L := L_X8_earliestDay_5 a0 a1 S) (s := s_X8_earliestDay_5 a0 a1 S) (K := K_X8_earliestDay_5 X Q _ _ a0 a1 S) (W_X8_earliestDay_5 a0 a1 S) fu ((-1 : Int32), (0 : Int32)) _ e8 ?_
  show gW _ _ 56 [some (.ref a0), some (.long a1), none, some (.int r7), none, none] [] S.1 S.2 _ _ _
  refine r_iload_n (pc := 56) dX8_earliestDay_56 rfl ?_
  refine r_ireturn (pc := 57) .int dX8_earliestDay_57 rfl rfl ?_
  cases hf
  exact hk
abbrev L_X8_latestDay_5 (l0 : Nat) (l1 : Int64) (S : pS) : Int32 × Int32 → List (Option Value) := fun a => [some (.ref l0), some (.long l1), none, some (.int a.1), some (.int a.2)]
abbrev s_X8_latestDay_5 (l0 : Nat) (l1 : Int64) (S : pS) : Int32 × Int32 → pS := fun a => S
abbrev K_X8_latestDay_5 (X : pX) (Q : pO → Nat → pF → Prop) (mc ms : Nat) (l0 : Nat) (l1 : Int64) (S : pS) : Int32 → Prop := (fun b => gW X mX8_latestDay 39 [some (.ref l0), some (.long l1), none, some (.int b), none] [] S.1 S.2 Q mc ms)
def F_X8_latestDay_5 (l0 : Nat) (l1 : Int64) (S : pS) : Int32 × Int32 → Option ((Int32 × Int32) ⊕ (Int32)) := fun a => if (61 : Int32) ≤ a.2 then (some (.inr a.1)) else ((F_X9_contains S l1 a.2).bind fun q1 => if q1 = 0 then (some (.inl (a.1, a.2 + (1 : Int32)))) else ((oGA S l0 8 5).bind fun x3 => (oAI S x3 .int a.2).bind fun x5 => some (.inl (if a.1 < x5 then x5 else a.1, a.2 + (1 : Int32)))))
set_option maxRecDepth 100000 in
set_option maxHeartbeats 4000000 in
theorem W_X8_latestDay_5 {X : pX} {Q : pO → Nat → pF → Prop} {mc ms : Nat} (l0 : Nat) (l1 : Int64) (S : pS) : ∀ (a : Int32 × Int32) (r : (Int32 × Int32) ⊕ (Int32)), F_X8_latestDay_5 l0 l1 S a = some r → Sum.elim (fun a' => gW X mX8_latestDay 5 (L_X8_latestDay_5 l0 l1 S a') [] (s_X8_latestDay_5 l0 l1 S a').1 (s_X8_latestDay_5 l0 l1 S a').2 Q mc ms) (K_X8_latestDay_5 X Q mc ms l0 l1 S) r → gW X mX8_latestDay 5 (L_X8_latestDay_5 l0 l1 S a) [] (s_X8_latestDay_5 l0 l1 S a).1 (s_X8_latestDay_5 l0 l1 S a).2 Q mc ms := by
  intro a r hf hk
  obtain ⟨l3, l4⟩ := a
  unfold F_X8_latestDay_5 at hf
  try dsimp only at hf
  change gW _ _ _ [some (.ref l0), some (.long l1), none, some (.int l3), some (.int l4)] _ S.1 S.2 _ _ _
  refine r_iload (pc := 5) dX8_latestDay_5 rfl ?_
  refine r_bipush (pc := 7) (61 : Int32) dX8_latestDay_7 (by decide) ?_
  refine r_icmp_ge (pc := 9) 39 dX8_latestDay_9 (by decide) (fun hc => ?_) (fun hc => ?_)
  · rw [if_pos hc] at hf
    cases hf
    exact gW.weak (by simp [gle]) hk
  · rw [if_neg hc] at hf
    refine r_lload_n (pc := 12) dX8_latestDay_12 rfl ?_
    refine r_iload (pc := 13) dX8_latestDay_13 rfl ?_
    obtain ⟨q1, e2, hf⟩ := obind hf
    refine q_callSN (pc := 15) (v := some (.int q1)) (S' := S) mX9_contains [.long l1, .int l4] dX8_latestDay_15 kX8_51 fX9_contains sX9_contains ⟨by decide, by decide⟩ rfl rfl (Nat.le_of_ble_eq_true rfl) (mc1 := 0) (ms1 := 0) (mc2 := mc) (ms2 := ms) (by omega) (by omega) (C_X9_contains S l1 l4 q1 e2 (qR_mk _ _)) ?_
    change gW _ _ _ _ (.int q1 :: _) _ _ _ _ _
    refine r_if_eq (pc := 18) 33 dX8_latestDay_18 (by decide) (fun hc => ?_) (fun hc => ?_)
    · rw [if_pos hc] at hf
      refine r_iinc (pc := 33) dX8_latestDay_33 rfl (by decide) ?_
      change gW _ _ _ [some (.ref l0), some (.long l1), none, some (.int l3), some (.int (l4 + (1 : Int32)))] _ _ _ _ _ _
      refine r_goto (pc := 36) 5 dX8_latestDay_36 (by decide) ?_
      cases hf
      exact gW.weak (by simp [gle]) hk
    · rw [if_neg hc] at hf
      refine r_iload_n (pc := 21) dX8_latestDay_21 rfl ?_
      refine r_aload_n (pc := 22) dX8_latestDay_22 rfl ?_
      obtain ⟨x3, e4, hf⟩ := obind hf
      refine q_getA (pc := 23) dX8_latestDay_23 gX8_28 e4 ?_
      refine r_iload (pc := 26) dX8_latestDay_26 rfl ?_
      obtain ⟨x5, e6, hf⟩ := obind hf
      refine q_iald (pc := 28) dX8_latestDay_28 e6 ?_
      refine r_max (pc := 29) dX8_latestDay_29 kX8_84 k_max.1 k_max.2.1 k_max.2.2 ⟨by decide, Nat.le_of_ble_eq_true rfl⟩ ?_
      refine r_istore_n (pc := 32) dX8_latestDay_32 (by decide) ?_
      change gW _ _ _ [some (.ref l0), some (.long l1), none, some (.int (if l3 < x5 then x5 else l3)), some (.int l4)] _ _ _ _ _ _
      refine r_iinc (pc := 33) dX8_latestDay_33 rfl (by decide) ?_
      change gW _ _ _ [some (.ref l0), some (.long l1), none, some (.int (if l3 < x5 then x5 else l3)), some (.int (l4 + (1 : Int32)))] _ _ _ _ _ _
      refine r_goto (pc := 36) 5 dX8_latestDay_36 (by decide) ?_
      cases hf
      exact gW.weak (by simp [gle]) hk
def F_X8_latestDay (S : pS) (a0 : Nat) (a1 : Int64) : Option (Int32) := (oF S a0 8).bind fun _ => (iter (F_X8_latestDay_5 a0 a1 S) fu ((-1 : Int32), (0 : Int32))).bind fun r7 => some r7
set_option maxRecDepth 100000 in
set_option maxHeartbeats 4000000 in
theorem C_X8_latestDay {X : pX} {Q : pO → Nat → pF → Prop} (S : pS) (a0 : Nat) (a1 : Int64) (r : Int32) (hf : F_X8_latestDay S a0 a1 = some r) (hk : Q (.inl (some (.int r))) S.1 S.2) : gC X mX8_latestDay [.ref a0, .long a1] S.1 S.2 Q 0 0 := by
  refine gC_of (by decide) (Nat.le_of_ble_eq_true rfl) ?_
  change gW _ _ _ [some (.ref a0), some (.long a1), none, none, none] _ _ _ _ _ _
  unfold F_X8_latestDay at hf
  obtain ⟨_, _, hf⟩ := obind hf
  refine r_iconst (pc := 0) (-1 : Int32) dX8_latestDay_0 (by decide) ?_
  refine r_istore_n (pc := 1) dX8_latestDay_1 (by decide) ?_
  change gW _ _ _ [some (.ref a0), some (.long a1), none, some (.int (-1 : Int32)), none] _ _ _ _ _ _
  refine r_iconst (pc := 2) (0 : Int32) dX8_latestDay_2 (by decide) ?_
  refine r_istore (pc := 3) dX8_latestDay_3 (by decide) ?_
  change gW _ _ _ [some (.ref a0), some (.long a1), none, some (.int (-1 : Int32)), some (.int (0 : Int32))] _ _ _ _ _ _
  obtain ⟨r7, e8, hf⟩ := obind hf
  refine gW.weak (ls' := [some (.ref a0), some (.long a1), none, some (.int (-1 : Int32)), some (.int (0 : Int32))]) (by simp [gle]) ?_
  refine g_iter (L := L_X8_latestDay_5 a0 a1 S) (s := s_X8_latestDay_5 a0 a1 S) (K := K_X8_latestDay_5 X Q _ _ a0 a1 S) (W_X8_latestDay_5 a0 a1 S) fu ((-1 : Int32), (0 : Int32)) _ e8 ?_
  show gW _ _ 39 [some (.ref a0), some (.long a1), none, some (.int r7), none] [] S.1 S.2 _ _ _
  refine r_iload_n (pc := 39) dX8_latestDay_39 rfl ?_
  refine r_ireturn (pc := 40) .int dX8_latestDay_40 rfl rfl ?_
  cases hf
  exact hk
abbrev L_X8_hasSoundChildren_2 (l0 : Nat) (S : pS) : Int32 → List (Option Value) := fun a => [some (.ref l0), some (.int a), none, none, none, none]
abbrev s_X8_hasSoundChildren_2 (l0 : Nat) (S : pS) : Int32 → pS := fun a => S
abbrev K_X8_hasSoundChildren_2 (X : pX) (Q : pO → Nat → pF → Prop) (mc ms : Nat) (l0 : Nat) (S : pS) : (Unit) ⊕ (Unit) → Prop := (Sum.elim (fun b => gW X mX8_hasSoundChildren 59 [some (.ref l0), none, none, none, none, none] [] S.1 S.2 Q mc ms) (fun b => gW X mX8_hasSoundChildren 81 [some (.ref l0), none, none, none, none, none] [] S.1 S.2 Q mc ms))
abbrev L_X8_hasSoundChildren_13 (l0 : Nat) (l1 : Int32) (S : pS) : Int64 × Int32 → List (Option Value) := fun a => [some (.ref l0), some (.int l1), some (.long a.1), none, some (.int a.2), none]
abbrev s_X8_hasSoundChildren_13 (l0 : Nat) (l1 : Int32) (S : pS) : Int64 × Int32 → pS := fun a => S
abbrev K_X8_hasSoundChildren_13 (X : pX) (Q : pO → Nat → pF → Prop) (mc ms : Nat) (l0 : Nat) (l1 : Int32) (S : pS) : (Unit) ⊕ (Unit) → Prop := (Sum.elim (fun b => gW X mX8_hasSoundChildren 59 [some (.ref l0), some (.int l1), none, none, none, none] [] S.1 S.2 Q mc ms) (fun b => gW X mX8_hasSoundChildren 75 [some (.ref l0), some (.int l1), none, none, none, none] [] S.1 S.2 Q mc ms))
def F_X8_hasSoundChildren_13 (l0 : Nat) (l1 : Int32) (S : pS) : Int64 × Int32 → Option ((Int64 × Int32) ⊕ ((Unit) ⊕ (Unit))) := fun a => (F_X8_holds S l0 l1).bind fun q1 => if q1 = 0 then (some (.inr (.inr ()))) else ((oGA S l0 8 0).bind fun x3 => (oAI S x3 .int l1).bind fun x5 => if x5 ≤ a.2 then (some (.inr (.inr ()))) else ((F_X8_childAt S l0 l1 a.2).bind fun q7 => (F_X8_holds S l0 q7).bind fun q9 => if q9 = 0 then (some (.inr (.inl ()))) else ((F_X9_contains S a.1 q7).bind fun q11 => if q11 = 0 then ((F_X9_with S a.1 q7 (1 : Int32)).bind fun q13 => some (.inl (q13, a.2 + (1 : Int32)))) else (some (.inr (.inl ()))))))
set_option maxRecDepth 100000 in
set_option maxHeartbeats 4000000 in
theorem W_X8_hasSoundChildren_13 {X : pX} {Q : pO → Nat → pF → Prop} {mc ms : Nat} (l0 : Nat) (l1 : Int32) (S : pS) : ∀ (a : Int64 × Int32) (r : (Int64 × Int32) ⊕ ((Unit) ⊕ (Unit))), F_X8_hasSoundChildren_13 l0 l1 S a = some r → Sum.elim (fun a' => gW X mX8_hasSoundChildren 13 (L_X8_hasSoundChildren_13 l0 l1 S a') [] (s_X8_hasSoundChildren_13 l0 l1 S a').1 (s_X8_hasSoundChildren_13 l0 l1 S a').2 Q mc ms) (K_X8_hasSoundChildren_13 X Q mc ms l0 l1 S) r → gW X mX8_hasSoundChildren 13 (L_X8_hasSoundChildren_13 l0 l1 S a) [] (s_X8_hasSoundChildren_13 l0 l1 S a).1 (s_X8_hasSoundChildren_13 l0 l1 S a).2 Q mc ms := by
  intro a r hf hk
  obtain ⟨l2, l4⟩ := a
  unfold F_X8_hasSoundChildren_13 at hf
  try dsimp only at hf
  change gW _ _ _ [some (.ref l0), some (.int l1), some (.long l2), none, some (.int l4), none] _ S.1 S.2 _ _ _
  refine r_aload_n (pc := 13) dX8_hasSoundChildren_13 rfl ?_
  refine r_iload_n (pc := 14) dX8_hasSoundChildren_14 rfl ?_
  obtain ⟨q1, e2, hf⟩ := obind hf
  refine q_callV (pc := 15) (v := some (.int q1)) (S' := S) mX8_holds 8 [.int l1] dX8_hasSoundChildren_15 kX8_75 fX8_holds iX8_holds ⟨by decide, by decide⟩ rfl rfl rfl (Nat.le_of_ble_eq_true rfl) (og e2) (mc1 := 0) (ms1 := 0) (mc2 := mc) (ms2 := ms) (by omega) (by omega) (C_X8_holds S l0 l1 q1 e2 (qR_mk _ _)) ?_
  change gW _ _ _ _ (.int q1 :: _) _ _ _ _ _
  refine r_if_eq (pc := 18) 75 dX8_hasSoundChildren_18 (by decide) (fun hc => ?_) (fun hc => ?_)
  · rw [if_pos hc] at hf
    cases hf
    exact gW.weak (by simp [gle]) hk
  · rw [if_neg hc] at hf
    refine r_iload (pc := 21) dX8_hasSoundChildren_21 rfl ?_
    refine r_aload_n (pc := 23) dX8_hasSoundChildren_23 rfl ?_
    obtain ⟨x3, e4, hf⟩ := obind hf
    refine q_getA (pc := 24) dX8_hasSoundChildren_24 gX8_9 e4 ?_
    refine r_iload_n (pc := 27) dX8_hasSoundChildren_27 rfl ?_
    obtain ⟨x5, e6, hf⟩ := obind hf
    refine q_iald (pc := 28) dX8_hasSoundChildren_28 e6 ?_
    refine r_icmp_ge (pc := 29) 75 dX8_hasSoundChildren_29 (by decide) (fun hc => ?_) (fun hc => ?_)
    · rw [if_pos hc] at hf
      cases hf
      exact gW.weak (by simp [gle]) hk
    · rw [if_neg hc] at hf
      refine r_aload_n (pc := 32) dX8_hasSoundChildren_32 rfl ?_
      refine r_iload_n (pc := 33) dX8_hasSoundChildren_33 rfl ?_
      refine r_iload (pc := 34) dX8_hasSoundChildren_34 rfl ?_
      obtain ⟨q7, e8, hf⟩ := obind hf
      refine q_callV (pc := 36) (v := some (.int q7)) (S' := S) mX8_childAt 8 [.int l1, .int l4] dX8_hasSoundChildren_36 kX8_71 fX8_childAt iX8_childAt ⟨by decide, by decide⟩ rfl rfl rfl (Nat.le_of_ble_eq_true rfl) (og e8) (mc1 := 0) (ms1 := 0) (mc2 := mc) (ms2 := ms) (by omega) (by omega) (C_X8_childAt S l0 l1 l4 q7 e8 (qR_mk _ _)) ?_
      change gW _ _ _ _ (.int q7 :: _) _ _ _ _ _
      refine r_istore (pc := 39) dX8_hasSoundChildren_39 (by decide) ?_
      change gW _ _ _ [some (.ref l0), some (.int l1), some (.long l2), none, some (.int l4), some (.int q7)] _ _ _ _ _ _
      refine r_aload_n (pc := 41) dX8_hasSoundChildren_41 rfl ?_
      refine r_iload (pc := 42) dX8_hasSoundChildren_42 rfl ?_
      obtain ⟨q9, e10, hf⟩ := obind hf
      refine q_callV (pc := 44) (v := some (.int q9)) (S' := S) mX8_holds 8 [.int q7] dX8_hasSoundChildren_44 kX8_75 fX8_holds iX8_holds ⟨by decide, by decide⟩ rfl rfl rfl (Nat.le_of_ble_eq_true rfl) (og e10) (mc1 := 0) (ms1 := 0) (mc2 := mc) (ms2 := ms) (by omega) (by omega) (C_X8_holds S l0 q7 q9 e10 (qR_mk _ _)) ?_
      change gW _ _ _ _ (.int q9 :: _) _ _ _ _ _
      refine r_if_eq (pc := 47) 59 dX8_hasSoundChildren_47 (by decide) (fun hc => ?_) (fun hc => ?_)
      · rw [if_pos hc] at hf
        cases hf
        exact gW.weak (by simp [gle]) hk
      · rw [if_neg hc] at hf
        refine r_lload_n (pc := 50) dX8_hasSoundChildren_50 rfl ?_
        refine r_iload (pc := 51) dX8_hasSoundChildren_51 rfl ?_
        obtain ⟨q11, e12, hf⟩ := obind hf
        refine q_callSN (pc := 53) (v := some (.int q11)) (S' := S) mX9_contains [.long l2, .int q7] dX8_hasSoundChildren_53 kX8_51 fX9_contains sX9_contains ⟨by decide, by decide⟩ rfl rfl (Nat.le_of_ble_eq_true rfl) (mc1 := 0) (ms1 := 0) (mc2 := mc) (ms2 := ms) (by omega) (by omega) (C_X9_contains S l2 q7 q11 e12 (qR_mk _ _)) ?_
        change gW _ _ _ _ (.int q11 :: _) _ _ _ _ _
        refine r_if_eq (pc := 56) 61 dX8_hasSoundChildren_56 (by decide) (fun hc => ?_) (fun hc => ?_)
        · rw [if_pos hc] at hf
          refine r_lload_n (pc := 61) dX8_hasSoundChildren_61 rfl ?_
          refine r_iload (pc := 62) dX8_hasSoundChildren_62 rfl ?_
          refine r_iconst (pc := 64) (1 : Int32) dX8_hasSoundChildren_64 (by decide) ?_
          obtain ⟨q13, e14, hf⟩ := obind hf
          refine q_callSN (pc := 65) (v := some (.long q13)) (S' := S) mX9_with [.long l2, .int q7, .int (1 : Int32)] dX8_hasSoundChildren_65 kX8_61 fX9_with sX9_with ⟨by decide, by decide⟩ rfl rfl (Nat.le_of_ble_eq_true rfl) (mc1 := 0) (ms1 := 0) (mc2 := mc) (ms2 := ms) (by omega) (by omega) (C_X9_with S l2 q7 (1 : Int32) q13 e14 (qR_mk _ _)) ?_
          change gW _ _ _ _ (.long q13 :: _) _ _ _ _ _
          refine r_lstore_n (pc := 68) dX8_hasSoundChildren_68 (by decide) ?_
          change gW _ _ _ [some (.ref l0), some (.int l1), some (.long q13), none, some (.int l4), some (.int q7)] _ _ _ _ _ _
          refine r_iinc (pc := 69) dX8_hasSoundChildren_69 rfl (by decide) ?_
          change gW _ _ _ [some (.ref l0), some (.int l1), some (.long q13), none, some (.int (l4 + (1 : Int32))), some (.int q7)] _ _ _ _ _ _
          refine r_goto (pc := 72) 13 dX8_hasSoundChildren_72 (by decide) ?_
          cases hf
          exact gW.weak (by simp [gle]) hk
        · rw [if_neg hc] at hf
          cases hf
          exact gW.weak (by simp [gle]) hk
def F_X8_hasSoundChildren_2 (l0 : Nat) (S : pS) : Int32 → Option ((Int32) ⊕ ((Unit) ⊕ (Unit))) := fun a => if (61 : Int32) ≤ a then (some (.inr (.inr ()))) else ((iter (F_X8_hasSoundChildren_13 l0 a S) fu ((1 : Int64), (0 : Int32))).bind fun r15 => Sum.elim (fun q17 => some (.inr (.inl ()))) (fun q17 => some (.inl (a + (1 : Int32)))) r15)
set_option maxRecDepth 100000 in
set_option maxHeartbeats 4000000 in
theorem W_X8_hasSoundChildren_2 {X : pX} {Q : pO → Nat → pF → Prop} {mc ms : Nat} (l0 : Nat) (S : pS) : ∀ (a : Int32) (r : (Int32) ⊕ ((Unit) ⊕ (Unit))), F_X8_hasSoundChildren_2 l0 S a = some r → Sum.elim (fun a' => gW X mX8_hasSoundChildren 2 (L_X8_hasSoundChildren_2 l0 S a') [] (s_X8_hasSoundChildren_2 l0 S a').1 (s_X8_hasSoundChildren_2 l0 S a').2 Q mc ms) (K_X8_hasSoundChildren_2 X Q mc ms l0 S) r → gW X mX8_hasSoundChildren 2 (L_X8_hasSoundChildren_2 l0 S a) [] (s_X8_hasSoundChildren_2 l0 S a).1 (s_X8_hasSoundChildren_2 l0 S a).2 Q mc ms := by
  intro l1 r hf hk
  unfold F_X8_hasSoundChildren_2 at hf
  try dsimp only at hf
  change gW _ _ _ [some (.ref l0), some (.int l1), none, none, none, none] _ S.1 S.2 _ _ _
  refine r_iload_n (pc := 2) dX8_hasSoundChildren_2 rfl ?_
  refine r_bipush (pc := 3) (61 : Int32) dX8_hasSoundChildren_3 (by decide) ?_
  refine r_icmp_ge (pc := 5) 81 dX8_hasSoundChildren_5 (by decide) (fun hc => ?_) (fun hc => ?_)
  · rw [if_pos hc] at hf
    cases hf
    exact gW.weak (by simp [gle]) hk
  · rw [if_neg hc] at hf
    refine r_lconst (pc := 8) (1 : Int64) dX8_hasSoundChildren_8 (by decide) ?_
    refine r_lstore_n (pc := 9) dX8_hasSoundChildren_9 (by decide) ?_
    change gW _ _ _ [some (.ref l0), some (.int l1), some (.long (1 : Int64)), none, none, none] _ _ _ _ _ _
    refine r_iconst (pc := 10) (0 : Int32) dX8_hasSoundChildren_10 (by decide) ?_
    refine r_istore (pc := 11) dX8_hasSoundChildren_11 (by decide) ?_
    change gW _ _ _ [some (.ref l0), some (.int l1), some (.long (1 : Int64)), none, some (.int (0 : Int32)), none] _ _ _ _ _ _
    obtain ⟨r15, e16, hf⟩ := obind hf
    refine gW.weak (ls' := [some (.ref l0), some (.int l1), some (.long (1 : Int64)), none, some (.int (0 : Int32)), none]) (by simp [gle]) ?_
    refine g_iter (L := L_X8_hasSoundChildren_13 l0 l1 S) (s := s_X8_hasSoundChildren_13 l0 l1 S) (K := K_X8_hasSoundChildren_13 X Q _ _ l0 l1 S) (W_X8_hasSoundChildren_13 l0 l1 S) fu ((1 : Int64), (0 : Int32)) _ e16 ?_
    rcases r15 with q17 | q17
    · replace hf := hf
      show gW _ _ 59 [some (.ref l0), some (.int l1), none, none, none, none] [] S.1 S.2 _ _ _
      cases hf
      exact gW.weak (by simp [gle]) hk
    · replace hf := hf
      show gW _ _ 75 [some (.ref l0), some (.int l1), none, none, none, none] [] S.1 S.2 _ _ _
      refine r_iinc (pc := 75) dX8_hasSoundChildren_75 rfl (by decide) ?_
      change gW _ _ _ [some (.ref l0), some (.int (l1 + (1 : Int32))), none, none, none, none] _ _ _ _ _ _
      refine r_goto (pc := 78) 2 dX8_hasSoundChildren_78 (by decide) ?_
      cases hf
      exact gW.weak (by simp [gle]) hk
def F_X8_hasSoundChildren (S : pS) (a0 : Nat) : Option (Int32) := (oF S a0 8).bind fun _ => (iter (F_X8_hasSoundChildren_2 a0 S) fu (0 : Int32)).bind fun r18 => Sum.elim (fun q20 => some (0 : Int32)) (fun q20 => some (1 : Int32)) r18
set_option maxRecDepth 100000 in
set_option maxHeartbeats 4000000 in
theorem C_X8_hasSoundChildren {X : pX} {Q : pO → Nat → pF → Prop} (S : pS) (a0 : Nat) (r : Int32) (hf : F_X8_hasSoundChildren S a0 = some r) (hk : Q (.inl (some (.int r))) S.1 S.2) : gC X mX8_hasSoundChildren [.ref a0] S.1 S.2 Q 0 0 := by
  refine gC_of (by decide) (Nat.le_of_ble_eq_true rfl) ?_
  change gW _ _ _ [some (.ref a0), none, none, none, none, none] _ _ _ _ _ _
  unfold F_X8_hasSoundChildren at hf
  obtain ⟨_, _, hf⟩ := obind hf
  refine r_iconst (pc := 0) (0 : Int32) dX8_hasSoundChildren_0 (by decide) ?_
  refine r_istore_n (pc := 1) dX8_hasSoundChildren_1 (by decide) ?_
  change gW _ _ _ [some (.ref a0), some (.int (0 : Int32)), none, none, none, none] _ _ _ _ _ _
  obtain ⟨r18, e19, hf⟩ := obind hf
  refine gW.weak (ls' := [some (.ref a0), some (.int (0 : Int32)), none, none, none, none]) (by simp [gle]) ?_
  refine g_iter (L := L_X8_hasSoundChildren_2 a0 S) (s := s_X8_hasSoundChildren_2 a0 S) (K := K_X8_hasSoundChildren_2 X Q _ _ a0 S) (W_X8_hasSoundChildren_2 a0 S) fu (0 : Int32) _ e19 ?_
  rcases r18 with q20 | q20
  · replace hf := hf
    show gW _ _ 59 [some (.ref a0), none, none, none, none, none] [] S.1 S.2 _ _ _
    refine r_iconst (pc := 59) (0 : Int32) dX8_hasSoundChildren_59 (by decide) ?_
    refine r_ireturn (pc := 60) .boolean dX8_hasSoundChildren_60 rfl rfl ?_
    cases hf
    exact hk
  · replace hf := hf
    show gW _ _ 81 [some (.ref a0), none, none, none, none, none] [] S.1 S.2 _ _ _
    refine r_iconst (pc := 81) (1 : Int32) dX8_hasSoundChildren_81 (by decide) ?_
    refine r_ireturn (pc := 82) .boolean dX8_hasSoundChildren_82 rfl rfl ?_
    cases hf
    exact hk
abbrev L_X8_hasParentsAs_2 (l0 : Nat) (l1 : Nat) (S : pS) : Int32 → List (Option Value) := fun a => [some (.ref l0), some (.ref l1), some (.int a)]
abbrev s_X8_hasParentsAs_2 (l0 : Nat) (l1 : Nat) (S : pS) : Int32 → pS := fun a => S
abbrev K_X8_hasParentsAs_2 (X : pX) (Q : pO → Nat → pF → Prop) (mc ms : Nat) (l0 : Nat) (l1 : Nat) (S : pS) : (Unit) ⊕ (Unit) → Prop := (Sum.elim (fun b => gW X mX8_hasParentsAs 29 [some (.ref l0), some (.ref l1), none] [] S.1 S.2 Q mc ms) (fun b => gW X mX8_hasParentsAs 37 [some (.ref l0), some (.ref l1), none] [] S.1 S.2 Q mc ms))
def F_X8_hasParentsAs_2 (l0 : Nat) (l1 : Nat) (S : pS) : Int32 → Option ((Int32) ⊕ ((Unit) ⊕ (Unit))) := fun a => if (61 : Int32) ≤ a then (some (.inr (.inr ()))) else ((F_X8_holds S l0 a).bind fun q1 => if q1 = 0 then (some (.inl (a + (1 : Int32)))) else ((F_X8_countParents S l0 a).bind fun q3 => (F_X6_parentsOf S l1 a).bind fun q5 => if q3 = q5 then (some (.inl (a + (1 : Int32)))) else (some (.inr (.inl ())))))
set_option maxRecDepth 100000 in
set_option maxHeartbeats 4000000 in
theorem W_X8_hasParentsAs_2 {X : pX} {Q : pO → Nat → pF → Prop} {mc ms : Nat} (l0 : Nat) (l1 : Nat) (S : pS) : ∀ (a : Int32) (r : (Int32) ⊕ ((Unit) ⊕ (Unit))), F_X8_hasParentsAs_2 l0 l1 S a = some r → Sum.elim (fun a' => gW X mX8_hasParentsAs 2 (L_X8_hasParentsAs_2 l0 l1 S a') [] (s_X8_hasParentsAs_2 l0 l1 S a').1 (s_X8_hasParentsAs_2 l0 l1 S a').2 Q mc ms) (K_X8_hasParentsAs_2 X Q mc ms l0 l1 S) r → gW X mX8_hasParentsAs 2 (L_X8_hasParentsAs_2 l0 l1 S a) [] (s_X8_hasParentsAs_2 l0 l1 S a).1 (s_X8_hasParentsAs_2 l0 l1 S a).2 Q mc ms := by
  intro l2 r hf hk
  unfold F_X8_hasParentsAs_2 at hf
  try dsimp only at hf
  change gW _ _ _ [some (.ref l0), some (.ref l1), some (.int l2)] _ S.1 S.2 _ _ _
  refine r_iload_n (pc := 2) dX8_hasParentsAs_2 rfl ?_
  refine r_bipush (pc := 3) (61 : Int32) dX8_hasParentsAs_3 (by decide) ?_
  refine r_icmp_ge (pc := 5) 37 dX8_hasParentsAs_5 (by decide) (fun hc => ?_) (fun hc => ?_)
  · rw [if_pos hc] at hf
    cases hf
    exact gW.weak (by simp [gle]) hk
  · rw [if_neg hc] at hf
    refine r_aload_n (pc := 8) dX8_hasParentsAs_8 rfl ?_
    refine r_iload_n (pc := 9) dX8_hasParentsAs_9 rfl ?_
    obtain ⟨q1, e2, hf⟩ := obind hf
    refine q_callV (pc := 10) (v := some (.int q1)) (S' := S) mX8_holds 8 [.int l2] dX8_hasParentsAs_10 kX8_75 fX8_holds iX8_holds ⟨by decide, by decide⟩ rfl rfl rfl (Nat.le_of_ble_eq_true rfl) (og e2) (mc1 := 0) (ms1 := 0) (mc2 := mc) (ms2 := ms) (by omega) (by omega) (C_X8_holds S l0 l2 q1 e2 (qR_mk _ _)) ?_
    change gW _ _ _ _ (.int q1 :: _) _ _ _ _ _
    refine r_if_eq (pc := 13) 31 dX8_hasParentsAs_13 (by decide) (fun hc => ?_) (fun hc => ?_)
    · rw [if_pos hc] at hf
      refine r_iinc (pc := 31) dX8_hasParentsAs_31 rfl (by decide) ?_
      change gW _ _ _ [some (.ref l0), some (.ref l1), some (.int (l2 + (1 : Int32)))] _ _ _ _ _ _
      refine r_goto (pc := 34) 2 dX8_hasParentsAs_34 (by decide) ?_
      cases hf
      exact gW.weak (by simp [gle]) hk
    · rw [if_neg hc] at hf
      refine r_aload_n (pc := 16) dX8_hasParentsAs_16 rfl ?_
      refine r_iload_n (pc := 17) dX8_hasParentsAs_17 rfl ?_
      obtain ⟨q3, e4, hf⟩ := obind hf
      refine q_callV (pc := 18) (v := some (.int q3)) (S' := S) mX8_countParents 8 [.int l2] dX8_hasParentsAs_18 kX8_93 fX8_countParents iX8_countParents ⟨by decide, by decide⟩ rfl rfl rfl (Nat.le_of_ble_eq_true rfl) (og e4) (mc1 := 0) (ms1 := 0) (mc2 := mc) (ms2 := ms) (by omega) (by omega) (C_X8_countParents S l0 l2 q3 e4 (qR_mk _ _)) ?_
      change gW _ _ _ _ (.int q3 :: _) _ _ _ _ _
      refine r_aload_n (pc := 21) dX8_hasParentsAs_21 rfl ?_
      refine r_iload_n (pc := 22) dX8_hasParentsAs_22 rfl ?_
      obtain ⟨q5, e6, hf⟩ := obind hf
      refine q_callV (pc := 23) (v := some (.int q5)) (S' := S) mX6_parentsOf 6 [.int l2] dX8_hasParentsAs_23 kX8_97 fX6_parentsOf iX6_parentsOf ⟨by decide, by decide⟩ rfl rfl rfl (Nat.le_of_ble_eq_true rfl) (og e6) (mc1 := 0) (ms1 := 0) (mc2 := mc) (ms2 := ms) (by omega) (by omega) (C_X6_parentsOf S l1 l2 q5 e6 (qR_mk _ _)) ?_
      change gW _ _ _ _ (.int q5 :: _) _ _ _ _ _
      refine r_icmp_eq (pc := 26) 31 dX8_hasParentsAs_26 (by decide) (fun hc => ?_) (fun hc => ?_)
      · rw [if_pos hc] at hf
        refine r_iinc (pc := 31) dX8_hasParentsAs_31 rfl (by decide) ?_
        change gW _ _ _ [some (.ref l0), some (.ref l1), some (.int (l2 + (1 : Int32)))] _ _ _ _ _ _
        refine r_goto (pc := 34) 2 dX8_hasParentsAs_34 (by decide) ?_
        cases hf
        exact gW.weak (by simp [gle]) hk
      · rw [if_neg hc] at hf
        cases hf
        exact gW.weak (by simp [gle]) hk
def F_X8_hasParentsAs (S : pS) (a0 : Nat) (a1 : Nat) : Option (Int32) := (oF S a0 8).bind fun _ => (iter (F_X8_hasParentsAs_2 a0 a1 S) fu (0 : Int32)).bind fun r7 => Sum.elim (fun q9 => some (0 : Int32)) (fun q9 => some (1 : Int32)) r7
set_option maxRecDepth 100000 in
set_option maxHeartbeats 4000000 in
theorem C_X8_hasParentsAs {X : pX} {Q : pO → Nat → pF → Prop} (S : pS) (a0 : Nat) (a1 : Nat) (r : Int32) (hf : F_X8_hasParentsAs S a0 a1 = some r) (hk : Q (.inl (some (.int r))) S.1 S.2) : gC X mX8_hasParentsAs [.ref a0, .ref a1] S.1 S.2 Q 0 0 := by
  refine gC_of (by decide) (Nat.le_of_ble_eq_true rfl) ?_
  change gW _ _ _ [some (.ref a0), some (.ref a1), none] _ _ _ _ _ _
  unfold F_X8_hasParentsAs at hf
  obtain ⟨_, _, hf⟩ := obind hf
  refine r_iconst (pc := 0) (0 : Int32) dX8_hasParentsAs_0 (by decide) ?_
  refine r_istore_n (pc := 1) dX8_hasParentsAs_1 (by decide) ?_
  change gW _ _ _ [some (.ref a0), some (.ref a1), some (.int (0 : Int32))] _ _ _ _ _ _
  obtain ⟨r7, e8, hf⟩ := obind hf
  refine gW.weak (ls' := [some (.ref a0), some (.ref a1), some (.int (0 : Int32))]) (by simp [gle]) ?_
  refine g_iter (L := L_X8_hasParentsAs_2 a0 a1 S) (s := s_X8_hasParentsAs_2 a0 a1 S) (K := K_X8_hasParentsAs_2 X Q _ _ a0 a1 S) (W_X8_hasParentsAs_2 a0 a1 S) fu (0 : Int32) _ e8 ?_
  rcases r7 with q9 | q9
  · replace hf := hf
    show gW _ _ 29 [some (.ref a0), some (.ref a1), none] [] S.1 S.2 _ _ _
    refine r_iconst (pc := 29) (0 : Int32) dX8_hasParentsAs_29 (by decide) ?_
    refine r_ireturn (pc := 30) .boolean dX8_hasParentsAs_30 rfl rfl ?_
    cases hf
    exact hk
  · replace hf := hf
    show gW _ _ 37 [some (.ref a0), some (.ref a1), none] [] S.1 S.2 _ _ _
    refine r_iconst (pc := 37) (1 : Int32) dX8_hasParentsAs_37 (by decide) ?_
    refine r_ireturn (pc := 38) .boolean dX8_hasParentsAs_38 rfl rfl ?_
    cases hf
    exact hk
def F_X9_init (S : pS) (a0 : Nat) : Option (pS) := (F_X8_init (oNew S (.inr (8, dfX8))) S.1).bind fun q1 => (oPA q1 a0 9 0 S.1).bind fun S3 => (F_X8_init (oNew S3 (.inr (8, dfX8))) S3.1).bind fun q5 => (oPA q5 a0 9 1 S3.1).bind fun S7 => (oPN S7 a0 9 2 none).bind fun S9 => (F_X6_init (oNew S9 (.inr (6, dfX6))) S9.1).bind fun q11 => (oPA q11 a0 9 3 S9.1).bind fun S13 => (F_X6_init (oNew S13 (.inr (6, dfX6))) S13.1).bind fun q15 => (oPA q15 a0 9 4 S13.1).bind fun S17 => (F_X3_init (oNew S17 (.inr (3, dfX3))) S17.1).bind fun q19 => (oPA q19 a0 9 5 S17.1).bind fun S21 => (F_X4_init (oNew S21 (.inr (4, dfX4))) S21.1).bind fun q23 => (oPA q23 a0 9 6 S21.1).bind fun S25 => (F_X1_init (oNew S25 (.inr (1, dfX1))) S25.1).bind fun q27 => (oPA q27 a0 9 7 S25.1).bind fun S29 => (F_X1_init (oNew S29 (.inr (1, dfX1))) S29.1).bind fun q31 => (oPA q31 a0 9 8 S29.1).bind fun S33 => (F_X5_init (oNew S33 (.inr (5, dfX5))) S33.1).bind fun q35 => (oPA q35 a0 9 9 S33.1).bind fun S37 => (F_X7_init (oNew S37 (.inr (7, dfX7))) S37.1).bind fun q39 => (oPA q39 a0 9 10 S37.1).bind fun S41 => (F_X2_init (oNew S41 (.inr (2, dfX2))) S41.1).bind fun q43 => (oPA q43 a0 9 11 S41.1).bind fun S45 => (F_X0_init (oNew S45 (.inr (0, dfX0))) S45.1).bind fun q47 => (oPA q47 a0 9 12 S45.1).bind fun S49 => (oPA (oNew S49 (.inl (.char, 10, .inl (fun _ => 0)))) a0 9 13 S49.1).bind fun S51 => (oPA (oNew S51 (.inl (.int, 12, .inl (fun _ => 0)))) a0 9 14 S51.1).bind fun S53 => (oPI S53 a0 9 15 (-1000000 : Int32)).bind fun S55 => some S55
set_option maxRecDepth 100000 in
set_option maxHeartbeats 4000000 in
theorem C_X9_init {X : pX} {Q : pO → Nat → pF → Prop} (S : pS) (a0 : Nat) (r : pS) (hf : F_X9_init S a0 = some r) (hk : Q (.inl none) r.1 r.2) : gC X mX9_init [.ref a0] S.1 S.2 Q 67 6540 := by
  refine gC_of (by decide) (Nat.le_of_ble_eq_true rfl) ?_
  change gW _ _ _ [some (.ref a0)] _ _ _ _ _ _
  unfold F_X9_init at hf
  refine r_aload_n (pc := 0) dX9_init_0 rfl ?_
  refine r_objInit (pc := 1) dX9_init_1 kX9_3 k_obj.1 k_obj.2 ⟨by decide, Nat.le_of_ble_eq_true rfl⟩ ?_
  refine r_aload_n (pc := 4) dX9_init_4 rfl ?_
  refine r_new (pc := 5) 8 tyX8 dX9_init_5 rfl uX8 tyX8_ok nX9_9.1 nX9_9.2.1 nX9_9.2.2 (mc2 := 66) (ms2 := 6530) (by decide) (by decide) dfX8_ok ?_
  change gW _ _ _ _ _ (oNew S (.inr (8, dfX8))).1 (oNew S (.inr (8, dfX8))).2 _ _ _
  refine r_dup (pc := 8) dX9_init_8 rfl ?_
  obtain ⟨q1, e2, hf⟩ := obind hf
  refine q_callI (pc := 9) (S' := q1) mX8_init dX9_init_9 kX9_11 fX8_init iX8_init rfl rfl ⟨by decide, by decide⟩ (Nat.le_of_ble_eq_true rfl) (mc1 := 6) (ms1 := 1586) (mc2 := 60) (ms2 := 4944) (by decide) (by decide) (C_X8_init (oNew S (.inr (8, dfX8))) S.1 q1 e2 (qR_mk _ _)) ?_
  obtain ⟨S3, e4, hf⟩ := obind hf
  refine q_putA (pc := 12) dX9_init_12 pX9_12 (Or.inl ⟨_, rfl⟩) e4 ?_
  refine r_aload_n (pc := 15) dX9_init_15 rfl ?_
  refine r_new (pc := 16) 8 tyX8 dX9_init_16 rfl uX8 tyX8_ok nX9_9.1 nX9_9.2.1 nX9_9.2.2 (mc2 := 59) (ms2 := 4934) (by decide) (by decide) dfX8_ok ?_
  change gW _ _ _ _ _ (oNew S3 (.inr (8, dfX8))).1 (oNew S3 (.inr (8, dfX8))).2 _ _ _
  refine r_dup (pc := 19) dX9_init_19 rfl ?_
  obtain ⟨q5, e6, hf⟩ := obind hf
  refine q_callI (pc := 20) (S' := q5) mX8_init dX9_init_20 kX9_11 fX8_init iX8_init rfl rfl ⟨by decide, by decide⟩ (Nat.le_of_ble_eq_true rfl) (mc1 := 6) (ms1 := 1586) (mc2 := 53) (ms2 := 3348) (by decide) (by decide) (C_X8_init (oNew S3 (.inr (8, dfX8))) S3.1 q5 e6 (qR_mk _ _)) ?_
  obtain ⟨S7, e8, hf⟩ := obind hf
  refine q_putA (pc := 23) dX9_init_23 pX9_16 (Or.inl ⟨_, rfl⟩) e8 ?_
  refine r_aload_n (pc := 26) dX9_init_26 rfl ?_
  refine r_null (pc := 27) dX9_init_27 ?_
  obtain ⟨S9, e10, hf⟩ := obind hf
  refine q_putN (pc := 28) dX9_init_28 pX9_19 (Or.inl ⟨_, rfl⟩) e10 ?_
  refine r_aload_n (pc := 31) dX9_init_31 rfl ?_
  refine r_new (pc := 32) 6 tyX6 dX9_init_32 rfl uX6 tyX6_ok nX9_22.1 nX9_22.2.1 nX9_22.2.2 (mc2 := 52) (ms2 := 3340) (by decide) (by decide) dfX6_ok ?_
  change gW _ _ _ _ _ (oNew S9 (.inr (6, dfX6))).1 (oNew S9 (.inr (6, dfX6))).2 _ _ _
  refine r_dup (pc := 35) dX9_init_35 rfl ?_
  obtain ⟨q11, e12, hf⟩ := obind hf
  refine q_callI (pc := 36) (S' := q11) mX6_init dX9_init_36 kX9_24 fX6_init iX6_init rfl rfl ⟨by decide, by decide⟩ (Nat.le_of_ble_eq_true rfl) (mc1 := 7) (ms1 := 427) (mc2 := 45) (ms2 := 2913) (by decide) (by decide) (C_X6_init (oNew S9 (.inr (6, dfX6))) S9.1 q11 e12 (qR_mk _ _)) ?_
  obtain ⟨S13, e14, hf⟩ := obind hf
  refine q_putAF (pc := 39) dX9_init_39 pX9_25 (Or.inl ⟨_, rfl⟩) rfl e14 ?_
  refine r_aload_n (pc := 42) dX9_init_42 rfl ?_
  refine r_new (pc := 43) 6 tyX6 dX9_init_43 rfl uX6 tyX6_ok nX9_22.1 nX9_22.2.1 nX9_22.2.2 (mc2 := 44) (ms2 := 2905) (by decide) (by decide) dfX6_ok ?_
  change gW _ _ _ _ _ (oNew S13 (.inr (6, dfX6))).1 (oNew S13 (.inr (6, dfX6))).2 _ _ _
  refine r_dup (pc := 46) dX9_init_46 rfl ?_
  obtain ⟨q15, e16, hf⟩ := obind hf
  refine q_callI (pc := 47) (S' := q15) mX6_init dX9_init_47 kX9_24 fX6_init iX6_init rfl rfl ⟨by decide, by decide⟩ (Nat.le_of_ble_eq_true rfl) (mc1 := 7) (ms1 := 427) (mc2 := 37) (ms2 := 2478) (by decide) (by decide) (C_X6_init (oNew S13 (.inr (6, dfX6))) S13.1 q15 e16 (qR_mk _ _)) ?_
  obtain ⟨S17, e18, hf⟩ := obind hf
  refine q_putAF (pc := 50) dX9_init_50 pX9_29 (Or.inl ⟨_, rfl⟩) rfl e18 ?_
  refine r_aload_n (pc := 53) dX9_init_53 rfl ?_
  refine r_new (pc := 54) 3 tyX3 dX9_init_54 rfl uX3 tyX3_ok nX9_32.1 nX9_32.2.1 nX9_32.2.2 (mc2 := 36) (ms2 := 2476) (by decide) (by decide) dfX3_ok ?_
  change gW _ _ _ _ _ (oNew S17 (.inr (3, dfX3))).1 (oNew S17 (.inr (3, dfX3))).2 _ _ _
  refine r_dup (pc := 57) dX9_init_57 rfl ?_
  obtain ⟨q19, e20, hf⟩ := obind hf
  refine q_callIN (pc := 58) (S' := q19) mX3_init dX9_init_58 kX9_34 fX3_init iX3_init rfl rfl ⟨by decide, by decide⟩ (Nat.le_of_ble_eq_true rfl) (mc1 := 1) (ms1 := 8) (mc2 := 35) (ms2 := 2468) (by decide) (by decide) (C_X3_init (oNew S17 (.inr (3, dfX3))) S17.1 q19 e20 (qR_mk _ _)) ?_
  obtain ⟨S21, e22, hf⟩ := obind hf
  refine q_putAF (pc := 61) dX9_init_61 pX9_35 (Or.inl ⟨_, rfl⟩) rfl e22 ?_
  refine r_aload_n (pc := 64) dX9_init_64 rfl ?_
  refine r_new (pc := 65) 4 tyX4 dX9_init_65 rfl uX4 tyX4_ok nX9_39.1 nX9_39.2.1 nX9_39.2.2 (mc2 := 34) (ms2 := 2466) (by decide) (by decide) dfX4_ok ?_
  change gW _ _ _ _ _ (oNew S21 (.inr (4, dfX4))).1 (oNew S21 (.inr (4, dfX4))).2 _ _ _
  refine r_dup (pc := 68) dX9_init_68 rfl ?_
  obtain ⟨q23, e24, hf⟩ := obind hf
  refine q_callIN (pc := 69) (S' := q23) mX4_init dX9_init_69 kX9_41 fX4_init iX4_init rfl rfl ⟨by decide, by decide⟩ (Nat.le_of_ble_eq_true rfl) (mc1 := 1) (ms1 := 4) (mc2 := 33) (ms2 := 2462) (by decide) (by decide) (C_X4_init (oNew S21 (.inr (4, dfX4))) S21.1 q23 e24 (qR_mk _ _)) ?_
  obtain ⟨S25, e26, hf⟩ := obind hf
  refine q_putAF (pc := 72) dX9_init_72 pX9_42 (Or.inl ⟨_, rfl⟩) rfl e26 ?_
  refine r_aload_n (pc := 75) dX9_init_75 rfl ?_
  refine r_new (pc := 76) 1 tyX1 dX9_init_76 rfl uX1 tyX1_ok nX9_46.1 nX9_46.2.1 nX9_46.2.2 (mc2 := 32) (ms2 := 2456) (by decide) (by decide) dfX1_ok ?_
  change gW _ _ _ _ _ (oNew S25 (.inr (1, dfX1))).1 (oNew S25 (.inr (1, dfX1))).2 _ _ _
  refine r_dup (pc := 79) dX9_init_79 rfl ?_
  obtain ⟨q27, e28, hf⟩ := obind hf
  refine q_callIN (pc := 80) (S' := q27) mX1_init dX9_init_80 kX9_48 fX1_init iX1_init rfl rfl ⟨by decide, by decide⟩ (Nat.le_of_ble_eq_true rfl) (mc1 := 5) (ms1 := 70) (mc2 := 27) (ms2 := 2386) (by decide) (by decide) (C_X1_init (oNew S25 (.inr (1, dfX1))) S25.1 q27 e28 (qR_mk _ _)) ?_
  obtain ⟨S29, e30, hf⟩ := obind hf
  refine q_putA (pc := 83) dX9_init_83 pX9_49 (Or.inl ⟨_, rfl⟩) e30 ?_
  refine r_aload_n (pc := 86) dX9_init_86 rfl ?_
  refine r_new (pc := 87) 1 tyX1 dX9_init_87 rfl uX1 tyX1_ok nX9_46.1 nX9_46.2.1 nX9_46.2.2 (mc2 := 26) (ms2 := 2380) (by decide) (by decide) dfX1_ok ?_
  change gW _ _ _ _ _ (oNew S29 (.inr (1, dfX1))).1 (oNew S29 (.inr (1, dfX1))).2 _ _ _
  refine r_dup (pc := 90) dX9_init_90 rfl ?_
  obtain ⟨q31, e32, hf⟩ := obind hf
  refine q_callIN (pc := 91) (S' := q31) mX1_init dX9_init_91 kX9_48 fX1_init iX1_init rfl rfl ⟨by decide, by decide⟩ (Nat.le_of_ble_eq_true rfl) (mc1 := 5) (ms1 := 70) (mc2 := 21) (ms2 := 2310) (by decide) (by decide) (C_X1_init (oNew S29 (.inr (1, dfX1))) S29.1 q31 e32 (qR_mk _ _)) ?_
  obtain ⟨S33, e34, hf⟩ := obind hf
  refine q_putA (pc := 94) dX9_init_94 pX9_53 (Or.inl ⟨_, rfl⟩) e34 ?_
  refine r_aload_n (pc := 97) dX9_init_97 rfl ?_
  refine r_new (pc := 98) 5 tyX5 dX9_init_98 rfl uX5 tyX5_ok nX9_56.1 nX9_56.2.1 nX9_56.2.2 (mc2 := 20) (ms2 := 2304) (by decide) (by decide) dfX5_ok ?_
  change gW _ _ _ _ _ (oNew S33 (.inr (5, dfX5))).1 (oNew S33 (.inr (5, dfX5))).2 _ _ _
  refine r_dup (pc := 101) dX9_init_101 rfl ?_
  obtain ⟨q35, e36, hf⟩ := obind hf
  refine q_callIN (pc := 102) (S' := q35) mX5_init dX9_init_102 kX9_58 fX5_init iX5_init rfl rfl ⟨by decide, by decide⟩ (Nat.le_of_ble_eq_true rfl) (mc1 := 5) (ms1 := 1505) (mc2 := 15) (ms2 := 799) (by decide) (by decide) (C_X5_init (oNew S33 (.inr (5, dfX5))) S33.1 q35 e36 (qR_mk _ _)) ?_
  obtain ⟨S37, e38, hf⟩ := obind hf
  refine q_putAF (pc := 105) dX9_init_105 pX9_59 (Or.inl ⟨_, rfl⟩) rfl e38 ?_
  refine r_aload_n (pc := 108) dX9_init_108 rfl ?_
  refine r_new (pc := 109) 7 tyX7 dX9_init_109 rfl uX7 tyX7_ok nX9_63.1 nX9_63.2.1 nX9_63.2.2 (mc2 := 14) (ms2 := 796) (by decide) (by decide) dfX7_ok ?_
  change gW _ _ _ _ _ (oNew S37 (.inr (7, dfX7))).1 (oNew S37 (.inr (7, dfX7))).2 _ _ _
  refine r_dup (pc := 112) dX9_init_112 rfl ?_
  obtain ⟨q39, e40, hf⟩ := obind hf
  refine q_callIN (pc := 113) (S' := q39) mX7_init dX9_init_113 kX9_65 fX7_init iX7_init rfl rfl ⟨by decide, by decide⟩ (Nat.le_of_ble_eq_true rfl) (mc1 := 1) (ms1 := 80) (mc2 := 13) (ms2 := 716) (by decide) (by decide) (C_X7_init (oNew S37 (.inr (7, dfX7))) S37.1 q39 e40 (qR_mk _ _)) ?_
  obtain ⟨S41, e42, hf⟩ := obind hf
  refine q_putAF (pc := 116) dX9_init_116 pX9_66 (Or.inl ⟨_, rfl⟩) rfl e42 ?_
  refine r_aload_n (pc := 119) dX9_init_119 rfl ?_
  refine r_new (pc := 120) 2 tyX2 dX9_init_120 rfl uX2 tyX2_ok nX9_70.1 nX9_70.2.1 nX9_70.2.2 (mc2 := 12) (ms2 := 707) (by decide) (by decide) dfX2_ok ?_
  change gW _ _ _ _ _ (oNew S41 (.inr (2, dfX2))).1 (oNew S41 (.inr (2, dfX2))).2 _ _ _
  refine r_dup (pc := 123) dX9_init_123 rfl ?_
  obtain ⟨q43, e44, hf⟩ := obind hf
  refine q_callIN (pc := 124) (S' := q43) mX2_init dX9_init_124 kX9_72 fX2_init iX2_init rfl rfl ⟨by decide, by decide⟩ (Nat.le_of_ble_eq_true rfl) (mc1 := 8) (ms1 := 680) (mc2 := 4) (ms2 := 27) (by decide) (by decide) (C_X2_init (oNew S41 (.inr (2, dfX2))) S41.1 q43 e44 (qR_mk _ _)) ?_
  obtain ⟨S45, e46, hf⟩ := obind hf
  refine q_putAF (pc := 127) dX9_init_127 pX9_73 (Or.inl ⟨_, rfl⟩) rfl e46 ?_
  refine r_aload_n (pc := 130) dX9_init_130 rfl ?_
  refine r_new (pc := 131) 0 tyX0 dX9_init_131 rfl uX0 tyX0_ok nX9_77.1 nX9_77.2.1 nX9_77.2.2 (mc2 := 3) (ms2 := 25) (by decide) (by decide) dfX0_ok ?_
  change gW _ _ _ _ _ (oNew S45 (.inr (0, dfX0))).1 (oNew S45 (.inr (0, dfX0))).2 _ _ _
  refine r_dup (pc := 134) dX9_init_134 rfl ?_
  obtain ⟨q47, e48, hf⟩ := obind hf
  refine q_callIN (pc := 135) (S' := q47) mX0_init dX9_init_135 kX9_79 fX0_init iX0_init rfl rfl ⟨by decide, by decide⟩ (Nat.le_of_ble_eq_true rfl) (mc1 := 1) (ms1 := 3) (mc2 := 2) (ms2 := 22) (by decide) (by decide) (C_X0_init (oNew S45 (.inr (0, dfX0))) S45.1 q47 e48 (qR_mk _ _)) ?_
  obtain ⟨S49, e50, hf⟩ := obind hf
  refine q_putAF (pc := 138) dX9_init_138 pX9_80 (Or.inl ⟨_, rfl⟩) rfl e50 ?_
  refine r_aload_n (pc := 141) dX9_init_141 rfl ?_
  refine r_bipush (pc := 142) (10 : Int32) dX9_init_142 (by decide) ?_
  refine r_newa (pc := 144) .char .char (10, .inl (fun _ => 0)) dX9_init_144 rfl (by decide) k_arr_char (fun _ => rfl) (fun _ => rfl) (by decide) (by decide) (by decide) (mc2 := 1) (ms2 := 12) (by decide) (by decide) ?_
  change gW _ _ _ _ _ (oNew S49 (.inl (.char, 10, .inl (fun _ => 0)))).1 (oNew S49 (.inl (.char, 10, .inl (fun _ => 0)))).2 _ _ _
  obtain ⟨S51, e52, hf⟩ := obind hf
  refine q_putAF (pc := 146) dX9_init_146 pX9_84 (Or.inr ⟨_, rfl⟩) rfl e52 ?_
  refine r_aload_n (pc := 149) dX9_init_149 rfl ?_
  refine r_bipush (pc := 150) (12 : Int32) dX9_init_150 (by decide) ?_
  refine r_newa (pc := 152) .int .int (12, .inl (fun _ => 0)) dX9_init_152 rfl (by decide) k_arr_int (fun _ => rfl) (fun _ => rfl) (by decide) (by decide) (by decide) (mc2 := 0) (ms2 := 0) (by decide) (by decide) ?_
  change gW _ _ _ _ _ (oNew S51 (.inl (.int, 12, .inl (fun _ => 0)))).1 (oNew S51 (.inl (.int, 12, .inl (fun _ => 0)))).2 _ _ _
  obtain ⟨S53, e54, hf⟩ := obind hf
  refine q_putAF (pc := 154) dX9_init_154 pX9_88 (Or.inr ⟨_, rfl⟩) rfl e54 ?_
  refine r_aload_n (pc := 157) dX9_init_157 rfl ?_
  refine r_ldc (pc := 158) dX9_init_158 kX9_92 ?_
  obtain ⟨S55, e56, hf⟩ := obind hf
  refine q_putI (pc := 160) dX9_init_160 pX9_93 rfl e56 ?_
  refine r_return (pc := 163) dX9_init_163 rfl ?_
  cases hf
  exact hk
def F_X9_settle (S : pS) (a0 : Nat) : Option (pS) := (oF S a0 9).bind fun _ => (oGA S a0 9 3).bind fun x1 => (oGA S a0 9 0).bind fun x3 => (F_X6_measure S x1 x3).bind fun q5 => (oGA q5 a0 9 6).bind fun x7 => (oGA q5 a0 9 0).bind fun x9 => (F_X8_presentItems q5 x9).bind fun q11 => (F_X4_endUnlessAllIn q5 x7 q11).bind fun q13 => some q13
set_option maxRecDepth 100000 in
set_option maxHeartbeats 4000000 in
theorem C_X9_settle {X : pX} {Q : pO → Nat → pF → Prop} (S : pS) (a0 : Nat) (r : pS) (hf : F_X9_settle S a0 = some r) (hk : Q (.inl none) r.1 r.2) : gC X mX9_settle [.ref a0] S.1 S.2 Q 0 0 := by
  refine gC_of (by decide) (Nat.le_of_ble_eq_true rfl) ?_
  change gW _ _ _ [some (.ref a0)] _ _ _ _ _ _
  unfold F_X9_settle at hf
  obtain ⟨_, _, hf⟩ := obind hf
  refine r_aload_n (pc := 0) dX9_settle_0 rfl ?_
  obtain ⟨x1, e2, hf⟩ := obind hf
  refine q_getA (pc := 1) dX9_settle_1 gX9_25 e2 ?_
  refine r_aload_n (pc := 4) dX9_settle_4 rfl ?_
  obtain ⟨x3, e4, hf⟩ := obind hf
  refine q_getA (pc := 5) dX9_settle_5 gX9_12 e4 ?_
  obtain ⟨q5, e6, hf⟩ := obind hf
  refine q_callV (pc := 8) (v := none) (S' := q5) mX6_measure 6 [.ref x3] dX9_settle_8 kX9_195 fX6_measure iX6_measure ⟨by decide, by decide⟩ rfl rfl rfl (Nat.le_of_ble_eq_true rfl) (og e6) (mc1 := 0) (ms1 := 0) (mc2 := 0) (ms2 := 0) (by decide) (by decide) (C_X6_measure S x1 x3 q5 e6 (qR_mk _ _)) ?_
  refine r_aload_n (pc := 11) dX9_settle_11 rfl ?_
  obtain ⟨x7, e8, hf⟩ := obind hf
  refine q_getA (pc := 12) dX9_settle_12 gX9_42 e8 ?_
  refine r_aload_n (pc := 15) dX9_settle_15 rfl ?_
  obtain ⟨x9, e10, hf⟩ := obind hf
  refine q_getA (pc := 16) dX9_settle_16 gX9_12 e10 ?_
  obtain ⟨q11, e12, hf⟩ := obind hf
  refine q_callV (pc := 19) (v := some (.long q11)) (S' := q5) mX8_presentItems 8 [] dX9_settle_19 kX9_379 fX8_presentItems iX8_presentItems ⟨by decide, by decide⟩ rfl rfl rfl (Nat.le_of_ble_eq_true rfl) (og e12) (mc1 := 0) (ms1 := 0) (mc2 := 0) (ms2 := 0) (by decide) (by decide) (C_X8_presentItems q5 x9 q11 e12 (qR_mk _ _)) ?_
  change gW _ _ _ _ (.long q11 :: _) _ _ _ _ _
  obtain ⟨q13, e14, hf⟩ := obind hf
  refine q_callV (pc := 22) (v := none) (S' := q13) mX4_endUnlessAllIn 4 [.long q11] dX9_settle_22 kX9_424 fX4_endUnlessAllIn iX4_endUnlessAllIn ⟨by decide, by decide⟩ rfl rfl rfl (Nat.le_of_ble_eq_true rfl) (og e14) (mc1 := 0) (ms1 := 0) (mc2 := 0) (ms2 := 0) (by decide) (by decide) (C_X4_endUnlessAllIn q5 x7 q11 q13 e14 (qR_mk _ _)) ?_
  refine r_return (pc := 25) dX9_settle_25 rfl ?_
  cases hf
  exact hk
def F_X9_clear (S : pS) (a0 : Nat) : Option (Int32 × pS) := (oF S a0 9).bind fun _ => (oGA S a0 9 0).bind fun x1 => (F_X8_countItems S x1).bind fun q3 => (oGA S a0 9 0).bind fun x5 => (F_X8_reset S x5).bind fun q7 => (oGA q7 a0 9 5).bind fun x9 => (F_X3_forget q7 x9).bind fun q11 => (oGA q11 a0 9 6).bind fun x13 => (F_X4_endAll q11 x13).bind fun q15 => (oGA q15 a0 9 7).bind fun x17 => (F_X1_forget q15 x17).bind fun q19 => (F_X9_settle q19 a0).bind fun q21 => some (q3, q21)
set_option maxRecDepth 100000 in
set_option maxHeartbeats 4000000 in
theorem C_X9_clear {X : pX} {Q : pO → Nat → pF → Prop} (S : pS) (a0 : Nat) (r : Int32 × pS) (hf : F_X9_clear S a0 = some r) (hk : Q (.inl (some (.int r.1))) r.2.1 r.2.2) : gC X mX9_clear [.ref a0] S.1 S.2 Q 0 0 := by
  refine gC_of (by decide) (Nat.le_of_ble_eq_true rfl) ?_
  change gW _ _ _ [some (.ref a0), none] _ _ _ _ _ _
  unfold F_X9_clear at hf
  obtain ⟨_, _, hf⟩ := obind hf
  refine r_aload_n (pc := 0) dX9_clear_0 rfl ?_
  obtain ⟨x1, e2, hf⟩ := obind hf
  refine q_getA (pc := 1) dX9_clear_1 gX9_12 e2 ?_
  obtain ⟨q3, e4, hf⟩ := obind hf
  refine q_callV (pc := 4) (v := some (.int q3)) (S' := S) mX8_countItems 8 [] dX9_clear_4 kX9_97 fX8_countItems iX8_countItems ⟨by decide, by decide⟩ rfl rfl rfl (Nat.le_of_ble_eq_true rfl) (og e4) (mc1 := 0) (ms1 := 0) (mc2 := 0) (ms2 := 0) (by decide) (by decide) (C_X8_countItems S x1 q3 e4 (qR_mk _ _)) ?_
  change gW _ _ _ _ (.int q3 :: _) _ _ _ _ _
  refine r_istore_n (pc := 7) dX9_clear_7 (by decide) ?_
  change gW _ _ _ [some (.ref a0), some (.int q3)] _ _ _ _ _ _
  refine r_aload_n (pc := 8) dX9_clear_8 rfl ?_
  obtain ⟨x5, e6, hf⟩ := obind hf
  refine q_getA (pc := 9) dX9_clear_9 gX9_12 e6 ?_
  obtain ⟨q7, e8, hf⟩ := obind hf
  refine q_callV (pc := 12) (v := none) (S' := q7) mX8_reset 8 [] dX9_clear_12 kX9_101 fX8_reset iX8_reset ⟨by decide, by decide⟩ rfl rfl rfl (Nat.le_of_ble_eq_true rfl) (og e8) (mc1 := 0) (ms1 := 0) (mc2 := 0) (ms2 := 0) (by decide) (by decide) (C_X8_reset S x5 q7 e8 (qR_mk _ _)) ?_
  refine r_aload_n (pc := 15) dX9_clear_15 rfl ?_
  obtain ⟨x9, e10, hf⟩ := obind hf
  refine q_getA (pc := 16) dX9_clear_16 gX9_35 e10 ?_
  obtain ⟨q11, e12, hf⟩ := obind hf
  refine q_callV (pc := 19) (v := none) (S' := q11) mX3_forget 3 [] dX9_clear_19 kX9_104 fX3_forget iX3_forget ⟨by decide, by decide⟩ rfl rfl rfl (Nat.le_of_ble_eq_true rfl) (og e12) (mc1 := 0) (ms1 := 0) (mc2 := 0) (ms2 := 0) (by decide) (by decide) (C_X3_forget q7 x9 q11 e12 (qR_mk _ _)) ?_
  refine r_aload_n (pc := 22) dX9_clear_22 rfl ?_
  obtain ⟨x13, e14, hf⟩ := obind hf
  refine q_getA (pc := 23) dX9_clear_23 gX9_42 e14 ?_
  obtain ⟨q15, e16, hf⟩ := obind hf
  refine q_callV (pc := 26) (v := none) (S' := q15) mX4_endAll 4 [] dX9_clear_26 kX9_107 fX4_endAll iX4_endAll ⟨by decide, by decide⟩ rfl rfl rfl (Nat.le_of_ble_eq_true rfl) (og e16) (mc1 := 0) (ms1 := 0) (mc2 := 0) (ms2 := 0) (by decide) (by decide) (C_X4_endAll q11 x13 q15 e16 (qR_mk _ _)) ?_
  refine r_aload_n (pc := 29) dX9_clear_29 rfl ?_
  obtain ⟨x17, e18, hf⟩ := obind hf
  refine q_getA (pc := 30) dX9_clear_30 gX9_49 e18 ?_
  obtain ⟨q19, e20, hf⟩ := obind hf
  refine q_callV (pc := 33) (v := none) (S' := q19) mX1_forget 1 [] dX9_clear_33 kX9_110 fX1_forget iX1_forget ⟨by decide, by decide⟩ rfl rfl rfl (Nat.le_of_ble_eq_true rfl) (og e20) (mc1 := 0) (ms1 := 0) (mc2 := 0) (ms2 := 0) (by decide) (by decide) (C_X1_forget q15 x17 q19 e20 (qR_mk _ _)) ?_
  refine r_aload_n (pc := 36) dX9_clear_36 rfl ?_
  obtain ⟨q21, e22, hf⟩ := obind hf
  refine q_callV (pc := 37) (v := none) (S' := q21) mX9_settle 9 [] dX9_clear_37 kX9_111 fX9_settle iX9_settle ⟨by decide, by decide⟩ rfl rfl rfl (Nat.le_of_ble_eq_true rfl) (og e22) (mc1 := 0) (ms1 := 0) (mc2 := 0) (ms2 := 0) (by decide) (by decide) (C_X9_settle q19 a0 q21 e22 (qR_mk _ _)) ?_
  refine r_iload_n (pc := 40) dX9_clear_40 rfl ?_
  refine r_ireturn (pc := 41) .int dX9_clear_41 rfl rfl ?_
  cases hf
  exact hk
abbrev L_X9_append_5 (l0 : Nat) (l1 : Int32) (S : pS) : Int32 × Int32 → List (Option Value) := fun a => [some (.ref l0), some (.int l1), some (.int a.1), some (.int a.2), none]
abbrev s_X9_append_5 (l0 : Nat) (l1 : Int32) (S : pS) : Int32 × Int32 → pS := fun a => S
abbrev K_X9_append_5 (X : pX) (Q : pO → Nat → pF → Prop) (mc ms : Nat) (l0 : Nat) (l1 : Int32) (S : pS) : (Unit) ⊕ (Int32) → Prop := (Sum.elim (fun b => gW X mX9_append 37 [some (.ref l0), some (.int l1), none, none, none] [] S.1 S.2 Q mc ms) (fun b => gW X mX9_append 56 [some (.ref l0), some (.int l1), some (.int b), none, none] [] S.1 S.2 Q mc ms))
def F_X9_append_5 (l0 : Nat) (l1 : Int32) (S : pS) : Int32 × Int32 → Option ((Int32 × Int32) ⊕ ((Unit) ⊕ (Int32))) := fun a => if a.2 < 0 then (some (.inr (.inr a.1))) else (if (((l1.toUInt32 >>> (a.2.toUInt32 &&& Int32.toUInt32 31)).toInt32) &&& (255 : Int32)) = 0 then (some (.inl (a.1, a.2 + (-8 : Int32)))) else (if (((l1.toUInt32 >>> (a.2.toUInt32 &&& Int32.toUInt32 31)).toInt32) &&& (255 : Int32)) < (32 : Int32) then (some (.inr (.inl ()))) else (if (((l1.toUInt32 >>> (a.2.toUInt32 &&& Int32.toUInt32 31)).toInt32) &&& (255 : Int32)) ≤ (126 : Int32) then (some (.inl (a.1 + (1 : Int32), a.2 + (-8 : Int32)))) else (some (.inr (.inl ()))))))
set_option maxRecDepth 100000 in
set_option maxHeartbeats 4000000 in
theorem W_X9_append_5 {X : pX} {Q : pO → Nat → pF → Prop} {mc ms : Nat} (l0 : Nat) (l1 : Int32) (S : pS) : ∀ (a : Int32 × Int32) (r : (Int32 × Int32) ⊕ ((Unit) ⊕ (Int32))), F_X9_append_5 l0 l1 S a = some r → Sum.elim (fun a' => gW X mX9_append 5 (L_X9_append_5 l0 l1 S a') [] (s_X9_append_5 l0 l1 S a').1 (s_X9_append_5 l0 l1 S a').2 Q mc ms) (K_X9_append_5 X Q mc ms l0 l1 S) r → gW X mX9_append 5 (L_X9_append_5 l0 l1 S a) [] (s_X9_append_5 l0 l1 S a).1 (s_X9_append_5 l0 l1 S a).2 Q mc ms := by
  intro a r hf hk
  obtain ⟨l2, l3⟩ := a
  unfold F_X9_append_5 at hf
  try dsimp only at hf
  change gW _ _ _ [some (.ref l0), some (.int l1), some (.int l2), some (.int l3), none] _ S.1 S.2 _ _ _
  refine r_iload_n (pc := 5) dX9_append_5 rfl ?_
  refine r_if_lt (pc := 6) 56 dX9_append_6 (by decide) (fun hc => ?_) (fun hc => ?_)
  · rw [if_pos hc] at hf
    cases hf
    exact gW.weak (by simp [gle]) hk
  · rw [if_neg hc] at hf
    refine r_iload_n (pc := 9) dX9_append_9 rfl ?_
    refine r_iload_n (pc := 10) dX9_append_10 rfl ?_
    refine r_iushr (pc := 11) dX9_append_11 ?_
    refine r_sipush (pc := 12) (255 : Int32) dX9_append_12 (by decide) ?_
    refine r_iand (pc := 15) dX9_append_15 ?_
    refine r_istore (pc := 16) dX9_append_16 (by decide) ?_
    change gW _ _ _ [some (.ref l0), some (.int l1), some (.int l2), some (.int l3), some (.int (((l1.toUInt32 >>> (l3.toUInt32 &&& Int32.toUInt32 31)).toInt32) &&& (255 : Int32)))] _ _ _ _ _ _
    refine r_iload (pc := 18) dX9_append_18 rfl ?_
    refine r_if_eq (pc := 20) 50 dX9_append_20 (by decide) (fun hc => ?_) (fun hc => ?_)
    · rw [if_pos hc] at hf
      refine r_iinc (pc := 50) dX9_append_50 rfl (by decide) ?_
      change gW _ _ _ [some (.ref l0), some (.int l1), some (.int l2), some (.int (l3 + (-8 : Int32))), some (.int (((l1.toUInt32 >>> (l3.toUInt32 &&& Int32.toUInt32 31)).toInt32) &&& (255 : Int32)))] _ _ _ _ _ _
      refine r_goto (pc := 53) 5 dX9_append_53 (by decide) ?_
      cases hf
      exact gW.weak (by simp [gle]) hk
    · rw [if_neg hc] at hf
      refine r_iload (pc := 23) dX9_append_23 rfl ?_
      refine r_bipush (pc := 25) (32 : Int32) dX9_append_25 (by decide) ?_
      refine r_icmp_lt (pc := 27) 37 dX9_append_27 (by decide) (fun hc => ?_) (fun hc => ?_)
      · rw [if_pos hc] at hf
        cases hf
        exact gW.weak (by simp [gle]) hk
      · rw [if_neg hc] at hf
        refine r_iload (pc := 30) dX9_append_30 rfl ?_
        refine r_bipush (pc := 32) (126 : Int32) dX9_append_32 (by decide) ?_
        refine r_icmp_le (pc := 34) 47 dX9_append_34 (by decide) (fun hc => ?_) (fun hc => ?_)
        · rw [if_pos hc] at hf
          refine r_iinc (pc := 47) dX9_append_47 rfl (by decide) ?_
          change gW _ _ _ [some (.ref l0), some (.int l1), some (.int (l2 + (1 : Int32))), some (.int l3), some (.int (((l1.toUInt32 >>> (l3.toUInt32 &&& Int32.toUInt32 31)).toInt32) &&& (255 : Int32)))] _ _ _ _ _ _
          refine r_iinc (pc := 50) dX9_append_50 rfl (by decide) ?_
          change gW _ _ _ [some (.ref l0), some (.int l1), some (.int (l2 + (1 : Int32))), some (.int (l3 + (-8 : Int32))), some (.int (((l1.toUInt32 >>> (l3.toUInt32 &&& Int32.toUInt32 31)).toInt32) &&& (255 : Int32)))] _ _ _ _ _ _
          refine r_goto (pc := 53) 5 dX9_append_53 (by decide) ?_
          cases hf
          exact gW.weak (by simp [gle]) hk
        · rw [if_neg hc] at hf
          cases hf
          exact gW.weak (by simp [gle]) hk
def F_X9_append_37 (S : pS) : Option ((Int32 × pS) ⊕ (String × pS)) := some (.inr ("java/lang/IllegalArgumentException", S))
set_option maxRecDepth 100000 in
set_option maxHeartbeats 4000000 in
theorem W_X9_append_37 {X : pX} {Q : pO → Nat → pF → Prop} (S : pS) (r : (Int32 × pS) ⊕ (String × pS)) (hf : F_X9_append_37 S = some r) (hk : Sum.elim (fun q => Q (.inl (some (.int q.1))) q.2.1 q.2.2) (fun q => ∀ n', q.2.1 ≤ n' → Q (.inr q.1) n' (gjunk q.2.2 q.2.1)) r) : gW X mX9_append 37 [none, none, none, none, none] [] S.1 S.2 Q 1 6 := by
  unfold F_X9_append_37 at hf
  refine r_throw (pc := 37) "java/lang/IllegalArgumentException" 8 dX9_append_37 dX9_append_40 dX9_append_41 dX9_append_43 dX9_append_46 xX9_114_118 rfl ⟨by decide, Nat.le_of_ble_eq_true rfl⟩ (by decide) (by decide) ?_
  cases hf
  exact hk
abbrev L_X9_append_80 (l0 : Nat) (l1 : Int32) : Int32 × pS → List (Option Value) := fun a => [some (.ref l0), some (.int l1), none, some (.int a.1), none]
abbrev s_X9_append_80 (l0 : Nat) (l1 : Int32) : Int32 × pS → pS := fun a => a.2
abbrev K_X9_append_80 (X : pX) (Q : pO → Nat → pF → Prop) (mc ms : Nat) (l0 : Nat) (l1 : Int32) : pS → Prop := (fun b => gW X mX9_append 114 [some (.ref l0), some (.int l1), none, none, none] [] b.1 b.2 Q mc ms)
def F_X9_append_80 (l0 : Nat) (l1 : Int32) : Int32 × pS → Option ((Int32 × pS) ⊕ (pS)) := fun a => if a.1 < 0 then (some (.inr a.2)) else (if (((l1.toUInt32 >>> (a.1.toUInt32 &&& Int32.toUInt32 31)).toInt32) &&& (255 : Int32)) = 0 then (some (.inl (a.1 + (-8 : Int32), a.2))) else ((oGA a.2 l0 9 10).bind fun x8 => (F_X7_put a.2 x8 (((((l1.toUInt32 >>> (a.1.toUInt32 &&& Int32.toUInt32 31)).toInt32) &&& (255 : Int32)).toUInt32 % 65536).toInt32)).bind fun q10 => some (.inl (a.1 + (-8 : Int32), q10))))
set_option maxRecDepth 100000 in
set_option maxHeartbeats 4000000 in
theorem W_X9_append_80 {X : pX} {Q : pO → Nat → pF → Prop} {mc ms : Nat} (l0 : Nat) (l1 : Int32) : ∀ (a : Int32 × pS) (r : (Int32 × pS) ⊕ (pS)), F_X9_append_80 l0 l1 a = some r → Sum.elim (fun a' => gW X mX9_append 80 (L_X9_append_80 l0 l1 a') [] (s_X9_append_80 l0 l1 a').1 (s_X9_append_80 l0 l1 a').2 Q mc ms) (K_X9_append_80 X Q mc ms l0 l1) r → gW X mX9_append 80 (L_X9_append_80 l0 l1 a) [] (s_X9_append_80 l0 l1 a).1 (s_X9_append_80 l0 l1 a).2 Q mc ms := by
  intro a r hf hk
  obtain ⟨l3, S⟩ := a
  unfold F_X9_append_80 at hf
  try dsimp only at hf
  change gW _ _ _ [some (.ref l0), some (.int l1), none, some (.int l3), none] _ S.1 S.2 _ _ _
  refine r_iload_n (pc := 80) dX9_append_80 rfl ?_
  refine r_if_lt (pc := 81) 114 dX9_append_81 (by decide) (fun hc => ?_) (fun hc => ?_)
  · rw [if_pos hc] at hf
    cases hf
    exact gW.weak (by simp [gle]) hk
  · rw [if_neg hc] at hf
    refine r_iload_n (pc := 84) dX9_append_84 rfl ?_
    refine r_iload_n (pc := 85) dX9_append_85 rfl ?_
    refine r_iushr (pc := 86) dX9_append_86 ?_
    refine r_sipush (pc := 87) (255 : Int32) dX9_append_87 (by decide) ?_
    refine r_iand (pc := 90) dX9_append_90 ?_
    refine r_istore (pc := 91) dX9_append_91 (by decide) ?_
    change gW _ _ _ [some (.ref l0), some (.int l1), none, some (.int l3), some (.int (((l1.toUInt32 >>> (l3.toUInt32 &&& Int32.toUInt32 31)).toInt32) &&& (255 : Int32)))] _ _ _ _ _ _
    refine r_iload (pc := 93) dX9_append_93 rfl ?_
    refine r_if_eq (pc := 95) 108 dX9_append_95 (by decide) (fun hc => ?_) (fun hc => ?_)
    · rw [if_pos hc] at hf
      refine r_iinc (pc := 108) dX9_append_108 rfl (by decide) ?_
      change gW _ _ _ [some (.ref l0), some (.int l1), none, some (.int (l3 + (-8 : Int32))), some (.int (((l1.toUInt32 >>> (l3.toUInt32 &&& Int32.toUInt32 31)).toInt32) &&& (255 : Int32)))] _ _ _ _ _ _
      refine r_goto (pc := 111) 80 dX9_append_111 (by decide) ?_
      cases hf
      exact gW.weak (by simp [gle]) hk
    · rw [if_neg hc] at hf
      refine r_aload_n (pc := 98) dX9_append_98 rfl ?_
      obtain ⟨x8, e9, hf⟩ := obind hf
      refine q_getA (pc := 99) dX9_append_99 gX9_66 e9 ?_
      refine r_iload (pc := 102) dX9_append_102 rfl ?_
      refine r_i2c (pc := 104) dX9_append_104 ?_
      obtain ⟨q10, e11, hf⟩ := obind hf
      refine q_callV (pc := 105) (v := none) (S' := q10) mX7_put 7 [.int (((((l1.toUInt32 >>> (l3.toUInt32 &&& Int32.toUInt32 31)).toInt32) &&& (255 : Int32)).toUInt32 % 65536).toInt32)] dX9_append_105 kX9_130 fX7_put iX7_put ⟨by decide, by decide⟩ rfl rfl rfl (Nat.le_of_ble_eq_true rfl) (og e11) (mc1 := 0) (ms1 := 0) (mc2 := mc) (ms2 := ms) (by omega) (by omega) (C_X7_put S x8 (((((l1.toUInt32 >>> (l3.toUInt32 &&& Int32.toUInt32 31)).toInt32) &&& (255 : Int32)).toUInt32 % 65536).toInt32) q10 e11 (qR_mk _ _)) ?_
      refine r_iinc (pc := 108) dX9_append_108 rfl (by decide) ?_
      change gW _ _ _ [some (.ref l0), some (.int l1), none, some (.int (l3 + (-8 : Int32))), some (.int (((l1.toUInt32 >>> (l3.toUInt32 &&& Int32.toUInt32 31)).toInt32) &&& (255 : Int32)))] _ _ _ _ _ _
      refine r_goto (pc := 111) 80 dX9_append_111 (by decide) ?_
      cases hf
      exact gW.weak (by simp [gle]) hk
def F_X9_append (S : pS) (a0 : Nat) (a1 : Int32) : Option ((Int32 × pS) ⊕ (String × pS)) := (oF S a0 9).bind fun _ => (iter (F_X9_append_5 a0 a1 S) fu ((0 : Int32), (24 : Int32))).bind fun r1 => Sum.elim (fun q3 => F_X9_append_37 S) (fun q3 => (oGA S a0 9 10).bind fun x4 => (F_X7_hasRoomFor S x4 q3).bind fun q6 => if ¬ q6 = 0 then ((iter (F_X9_append_80 a0 a1) fu ((24 : Int32), S)).bind fun r12 => (oGA r12 a0 9 10).bind fun x14 => (F_X7_size r12 x14).bind fun q16 => some (.inl (q16, r12))) else (some (.inr ("java/lang/IllegalStateException", S)))) r1
set_option maxRecDepth 100000 in
set_option maxHeartbeats 4000000 in
theorem C_X9_append {X : pX} {Q : pO → Nat → pF → Prop} (S : pS) (a0 : Nat) (a1 : Int32) (r : (Int32 × pS) ⊕ (String × pS)) (hf : F_X9_append S a0 a1 = some r) (hk : Sum.elim (fun q => Q (.inl (some (.int q.1))) q.2.1 q.2.2) (fun q => ∀ n', q.2.1 ≤ n' → Q (.inr q.1) n' (gjunk q.2.2 q.2.1)) r) : gC X mX9_append [.ref a0, .int a1] S.1 S.2 Q 1 6 := by
  refine gC_of (by decide) (Nat.le_of_ble_eq_true rfl) ?_
  change gW _ _ _ [some (.ref a0), some (.int a1), none, none, none] _ _ _ _ _ _
  unfold F_X9_append at hf
  obtain ⟨_, _, hf⟩ := obind hf
  refine r_iconst (pc := 0) (0 : Int32) dX9_append_0 (by decide) ?_
  refine r_istore_n (pc := 1) dX9_append_1 (by decide) ?_
  change gW _ _ _ [some (.ref a0), some (.int a1), some (.int (0 : Int32)), none, none] _ _ _ _ _ _
  refine r_bipush (pc := 2) (24 : Int32) dX9_append_2 (by decide) ?_
  refine r_istore_n (pc := 4) dX9_append_4 (by decide) ?_
  change gW _ _ _ [some (.ref a0), some (.int a1), some (.int (0 : Int32)), some (.int (24 : Int32)), none] _ _ _ _ _ _
  obtain ⟨r1, e2, hf⟩ := obind hf
  refine gW.weak (ls' := [some (.ref a0), some (.int a1), some (.int (0 : Int32)), some (.int (24 : Int32)), none]) (by simp [gle]) ?_
  refine g_iter (L := L_X9_append_5 a0 a1 S) (s := s_X9_append_5 a0 a1 S) (K := K_X9_append_5 X Q _ _ a0 a1 S) (W_X9_append_5 a0 a1 S) fu ((0 : Int32), (24 : Int32)) _ e2 ?_
  rcases r1 with q3 | q3
  · replace hf := hf
    show gW _ _ 37 [some (.ref a0), some (.int a1), none, none, none] [] S.1 S.2 _ _ _
    refine gW.mono (mc := 1) (ms := 6) ?_ (fun _ _ _ q => q) (by decide) (by decide)
    exact gW.weak (by simp [gle]) (W_X9_append_37 S r hf hk)
  · replace hf := hf
    show gW _ _ 56 [some (.ref a0), some (.int a1), some (.int q3), none, none] [] S.1 S.2 _ _ _
    refine r_aload_n (pc := 56) dX9_append_56 rfl ?_
    obtain ⟨x4, e5, hf⟩ := obind hf
    refine q_getA (pc := 57) dX9_append_57 gX9_66 e5 ?_
    refine r_iload_n (pc := 60) dX9_append_60 rfl ?_
    obtain ⟨q6, e7, hf⟩ := obind hf
    refine q_callV (pc := 61) (v := some (.int q6)) (S' := S) mX7_hasRoomFor 7 [.int q3] dX9_append_61 kX9_121 fX7_hasRoomFor iX7_hasRoomFor ⟨by decide, by decide⟩ rfl rfl rfl (Nat.le_of_ble_eq_true rfl) (og e7) (mc1 := 0) (ms1 := 0) (mc2 := 1) (ms2 := 6) (by decide) (by decide) (C_X7_hasRoomFor S x4 q3 q6 e7 (qR_mk _ _)) ?_
    change gW _ _ _ _ (.int q6 :: _) _ _ _ _ _
    refine r_if_ne (pc := 64) 77 dX9_append_64 (by decide) (fun hc => ?_) (fun hc => ?_)
    · rw [if_pos hc] at hf
      refine r_bipush (pc := 77) (24 : Int32) dX9_append_77 (by decide) ?_
      refine r_istore_n (pc := 79) dX9_append_79 (by decide) ?_
      change gW _ _ _ [some (.ref a0), some (.int a1), some (.int q3), some (.int (24 : Int32)), none] _ _ _ _ _ _
      obtain ⟨r12, e13, hf⟩ := obind hf
      refine gW.weak (ls' := [some (.ref a0), some (.int a1), none, some (.int (24 : Int32)), none]) (by simp [gle]) ?_
      refine g_iter (L := L_X9_append_80 a0 a1) (s := s_X9_append_80 a0 a1) (K := K_X9_append_80 X Q _ _ a0 a1) (W_X9_append_80 a0 a1) fu ((24 : Int32), S) _ e13 ?_
      show gW _ _ 114 [some (.ref a0), some (.int a1), none, none, none] [] r12.1 r12.2 _ _ _
      refine r_aload_n (pc := 114) dX9_append_114 rfl ?_
      obtain ⟨x14, e15, hf⟩ := obind hf
      refine q_getA (pc := 115) dX9_append_115 gX9_66 e15 ?_
      obtain ⟨q16, e17, hf⟩ := obind hf
      refine q_callV (pc := 118) (v := some (.int q16)) (S' := r12) mX7_size 7 [] dX9_append_118 kX9_134 fX7_size iX7_size ⟨by decide, by decide⟩ rfl rfl rfl (Nat.le_of_ble_eq_true rfl) (og e17) (mc1 := 0) (ms1 := 0) (mc2 := 0) (ms2 := 0) (by decide) (by decide) (C_X7_size r12 x14 q16 e17 (qR_mk _ _)) ?_
      change gW _ _ _ _ (.int q16 :: _) _ _ _ _ _
      refine r_ireturn (pc := 121) .int dX9_append_121 rfl rfl ?_
      cases hf
      exact hk
    · rw [if_neg hc] at hf
      refine r_throw (pc := 67) "java/lang/IllegalStateException" 9 dX9_append_67 dX9_append_70 dX9_append_71 dX9_append_73 dX9_append_76 xX9_125_129 rfl ⟨by decide, Nat.le_of_ble_eq_true rfl⟩ (by decide) (by decide) ?_
      cases hf
      exact hk
def F_X9_needItem (S : pS) (a0 : Nat) (a1 : Int32) : Option ((pS) ⊕ (String × pS)) := (oF S a0 9).bind fun _ => (oGA S a0 9 0).bind fun x1 => (F_X8_holds S x1 a1).bind fun q3 => if ¬ q3 = 0 then (some (.inl S)) else (some (.inr ("java/util/NoSuchElementException", S)))
set_option maxRecDepth 100000 in
set_option maxHeartbeats 4000000 in
theorem C_X9_needItem {X : pX} {Q : pO → Nat → pF → Prop} (S : pS) (a0 : Nat) (a1 : Int32) (r : (pS) ⊕ (String × pS)) (hf : F_X9_needItem S a0 a1 = some r) (hk : Sum.elim (fun q => Q (.inl none) q.1 q.2) (fun q => ∀ n', q.2.1 ≤ n' → Q (.inr q.1) n' (gjunk q.2.2 q.2.1)) r) : gC X mX9_needItem [.ref a0, .int a1] S.1 S.2 Q 1 6 := by
  refine gC_of (by decide) (Nat.le_of_ble_eq_true rfl) ?_
  change gW _ _ _ [some (.ref a0), some (.int a1)] _ _ _ _ _ _
  unfold F_X9_needItem at hf
  obtain ⟨_, _, hf⟩ := obind hf
  refine r_aload_n (pc := 0) dX9_needItem_0 rfl ?_
  obtain ⟨x1, e2, hf⟩ := obind hf
  refine q_getA (pc := 1) dX9_needItem_1 gX9_12 e2 ?_
  refine r_iload_n (pc := 4) dX9_needItem_4 rfl ?_
  obtain ⟨q3, e4, hf⟩ := obind hf
  refine q_callV (pc := 5) (v := some (.int q3)) (S' := S) mX8_holds 8 [.int a1] dX9_needItem_5 kX9_401 fX8_holds iX8_holds ⟨by decide, by decide⟩ rfl rfl rfl (Nat.le_of_ble_eq_true rfl) (og e4) (mc1 := 0) (ms1 := 0) (mc2 := 1) (ms2 := 6) (by decide) (by decide) (C_X8_holds S x1 a1 q3 e4 (qR_mk _ _)) ?_
  change gW _ _ _ _ (.int q3 :: _) _ _ _ _ _
  refine r_if_ne (pc := 8) 22 dX9_needItem_8 (by decide) (fun hc => ?_) (fun hc => ?_)
  · rw [if_pos hc] at hf
    refine r_return (pc := 22) dX9_needItem_22 rfl ?_
    cases hf
    exact hk
  · rw [if_neg hc] at hf
    refine r_throwW (pc := 11) "java/util/NoSuchElementException" 10 dX9_needItem_11 dX9_needItem_14 dX9_needItem_15 dX9_needItem_18 dX9_needItem_21 xX9_404_408 rfl ⟨by decide, Nat.le_of_ble_eq_true rfl⟩ (by decide) (by decide) ?_
    cases hf
    exact hk
def F_X9_needGap_9 (S : pS) : Option ((pS) ⊕ (String × pS)) := some (.inr ("java/lang/IndexOutOfBoundsException", S))
set_option maxRecDepth 100000 in
set_option maxHeartbeats 4000000 in
theorem W_X9_needGap_9 {X : pX} {Q : pO → Nat → pF → Prop} (S : pS) (r : (pS) ⊕ (String × pS)) (hf : F_X9_needGap_9 S = some r) (hk : Sum.elim (fun q => Q (.inl none) q.1 q.2) (fun q => ∀ n', q.2.1 ≤ n' → Q (.inr q.1) n' (gjunk q.2.2 q.2.1)) r) : gW X mX9_needGap 9 [none, none, none] [] S.1 S.2 Q 1 6 := by
  unfold F_X9_needGap_9 at hf
  refine r_throwW (pc := 9) "java/lang/IndexOutOfBoundsException" 11 dX9_needGap_9 dX9_needGap_12 dX9_needGap_13 dX9_needGap_16 dX9_needGap_19 xX9_206_210 rfl ⟨by decide, Nat.le_of_ble_eq_true rfl⟩ (by decide) (by decide) ?_
  cases hf
  exact hk
def F_X9_needGap (S : pS) (a0 : Nat) (a1 : Int32) (a2 : Int32) : Option ((pS) ⊕ (String × pS)) := (oF S a0 9).bind fun _ => if a1 < 0 then (F_X9_needGap_9 S) else (if a1 ≤ a2 then (some (.inl S)) else (F_X9_needGap_9 S))
set_option maxRecDepth 100000 in
set_option maxHeartbeats 4000000 in
theorem C_X9_needGap {X : pX} {Q : pO → Nat → pF → Prop} (S : pS) (a0 : Nat) (a1 : Int32) (a2 : Int32) (r : (pS) ⊕ (String × pS)) (hf : F_X9_needGap S a0 a1 a2 = some r) (hk : Sum.elim (fun q => Q (.inl none) q.1 q.2) (fun q => ∀ n', q.2.1 ≤ n' → Q (.inr q.1) n' (gjunk q.2.2 q.2.1)) r) : gC X mX9_needGap [.ref a0, .int a1, .int a2] S.1 S.2 Q 1 6 := by
  refine gC_of (by decide) (Nat.le_of_ble_eq_true rfl) ?_
  change gW _ _ _ [some (.ref a0), some (.int a1), some (.int a2)] _ _ _ _ _ _
  unfold F_X9_needGap at hf
  obtain ⟨_, _, hf⟩ := obind hf
  refine r_iload_n (pc := 0) dX9_needGap_0 rfl ?_
  refine r_if_lt (pc := 1) 9 dX9_needGap_1 (by decide) (fun hc => ?_) (fun hc => ?_)
  · rw [if_pos hc] at hf
    refine gW.mono (mc := 1) (ms := 6) ?_ (fun _ _ _ q => q) (by decide) (by decide)
    exact gW.weak (by simp [gle]) (W_X9_needGap_9 S r hf hk)
  · rw [if_neg hc] at hf
    refine r_iload_n (pc := 4) dX9_needGap_4 rfl ?_
    refine r_iload_n (pc := 5) dX9_needGap_5 rfl ?_
    refine r_icmp_le (pc := 6) 20 dX9_needGap_6 (by decide) (fun hc => ?_) (fun hc => ?_)
    · rw [if_pos hc] at hf
      refine r_return (pc := 20) dX9_needGap_20 rfl ?_
      cases hf
      exact hk
    · rw [if_neg hc] at hf
      refine gW.mono (mc := 1) (ms := 6) ?_ (fun _ _ _ q => q) (by decide) (by decide)
      exact gW.weak (by simp [gle]) (W_X9_needGap_9 S r hf hk)
def F_X9_failText (S : pS) (a0 : Nat) : Option ((pS) ⊕ (String × pS)) := (oF S a0 9).bind fun _ => (oGA S a0 9 10).bind fun x1 => (F_X7_position S x1).bind fun q3 => (oPI S a0 9 15 q3).bind fun S5 => (oGA S5 a0 9 10).bind fun x7 => (F_X7_forget S5 x7).bind fun q9 => some (.inr ("java/lang/IllegalArgumentException", q9))
set_option maxRecDepth 100000 in
set_option maxHeartbeats 4000000 in
theorem C_X9_failText {X : pX} {Q : pO → Nat → pF → Prop} (S : pS) (a0 : Nat) (r : (pS) ⊕ (String × pS)) (hf : F_X9_failText S a0 = some r) (hk : Sum.elim (fun q => Q (.inl none) q.1 q.2) (fun q => ∀ n', q.2.1 ≤ n' → Q (.inr q.1) n' (gjunk q.2.2 q.2.1)) r) : gC X mX9_failText [.ref a0] S.1 S.2 Q 1 6 := by
  refine gC_of (by decide) (Nat.le_of_ble_eq_true rfl) ?_
  change gW _ _ _ [some (.ref a0)] _ _ _ _ _ _
  unfold F_X9_failText at hf
  obtain ⟨_, _, hf⟩ := obind hf
  refine r_aload_n (pc := 0) dX9_failText_0 rfl ?_
  refine r_aload_n (pc := 1) dX9_failText_1 rfl ?_
  obtain ⟨x1, e2, hf⟩ := obind hf
  refine q_getA (pc := 2) dX9_failText_2 gX9_66 e2 ?_
  obtain ⟨q3, e4, hf⟩ := obind hf
  refine q_callV (pc := 5) (v := some (.int q3)) (S' := S) mX7_position 7 [] dX9_failText_5 kX9_417 fX7_position iX7_position ⟨by decide, by decide⟩ rfl rfl rfl (Nat.le_of_ble_eq_true rfl) (og e4) (mc1 := 0) (ms1 := 0) (mc2 := 1) (ms2 := 6) (by decide) (by decide) (C_X7_position S x1 q3 e4 (qR_mk _ _)) ?_
  change gW _ _ _ _ (.int q3 :: _) _ _ _ _ _
  obtain ⟨S5, e6, hf⟩ := obind hf
  refine q_putI (pc := 8) dX9_failText_8 pX9_93 rfl e6 ?_
  refine r_aload_n (pc := 11) dX9_failText_11 rfl ?_
  obtain ⟨x7, e8, hf⟩ := obind hf
  refine q_getA (pc := 12) dX9_failText_12 gX9_66 e8 ?_
  obtain ⟨q9, e10, hf⟩ := obind hf
  refine q_callV (pc := 15) (v := none) (S' := q9) mX7_forget 7 [] dX9_failText_15 kX9_354 fX7_forget iX7_forget ⟨by decide, by decide⟩ rfl rfl rfl (Nat.le_of_ble_eq_true rfl) (og e10) (mc1 := 0) (ms1 := 0) (mc2 := 1) (ms2 := 6) (by decide) (by decide) (C_X7_forget S5 x7 q9 e10 (qR_mk _ _)) ?_
  refine r_throwW (pc := 18) "java/lang/IllegalArgumentException" 12 dX9_failText_18 dX9_failText_21 dX9_failText_22 dX9_failText_25 dX9_failText_28 xX9_114_118 rfl ⟨by decide, Nat.le_of_ble_eq_true rfl⟩ (by decide) (by decide) ?_
  cases hf
  exact hk
def F_X9_takeName_38 (S : pS) (l0 : Nat) (l1 : Int32) : Option ((Int32 × pS) ⊕ (String × pS)) := (oGA S l0 9 10).bind fun x13 => (F_X7_forget S x13).bind fun q15 => some (.inl (l1, q15))
set_option maxRecDepth 100000 in
set_option maxHeartbeats 4000000 in
theorem W_X9_takeName_38 {X : pX} {Q : pO → Nat → pF → Prop} (S : pS) (l0 : Nat) (l1 : Int32) (r : (Int32 × pS) ⊕ (String × pS)) (hf : F_X9_takeName_38 S l0 l1 = some r) (hk : Sum.elim (fun q => Q (.inl (some (.int q.1))) q.2.1 q.2.2) (fun q => ∀ n', q.2.1 ≤ n' → Q (.inr q.1) n' (gjunk q.2.2 q.2.1)) r) : gW X mX9_takeName 38 [some (.ref l0), some (.int l1)] [] S.1 S.2 Q 0 0 := by
  unfold F_X9_takeName_38 at hf
  refine r_aload_n (pc := 38) dX9_takeName_38 rfl ?_
  obtain ⟨x13, e14, hf⟩ := obind hf
  refine q_getA (pc := 39) dX9_takeName_39 gX9_66 e14 ?_
  obtain ⟨q15, e16, hf⟩ := obind hf
  refine q_callV (pc := 42) (v := none) (S' := q15) mX7_forget 7 [] dX9_takeName_42 kX9_354 fX7_forget iX7_forget ⟨by decide, by decide⟩ rfl rfl rfl (Nat.le_of_ble_eq_true rfl) (og e16) (mc1 := 0) (ms1 := 0) (mc2 := 0) (ms2 := 0) (by decide) (by decide) (C_X7_forget S x13 q15 e16 (qR_mk _ _)) ?_
  refine r_iload_n (pc := 45) dX9_takeName_45 rfl ?_
  refine r_ireturn (pc := 46) .int dX9_takeName_46 rfl rfl ?_
  cases hf
  exact hk
def F_X9_takeName_34 (S : pS) (l0 : Nat) (l1 : Int32) : Option ((Int32 × pS) ⊕ (String × pS)) := (F_X9_failText S l0).bind fun q11 => Sum.elim (fun q11 => F_X9_takeName_38 q11 l0 l1) (fun q11 => some (.inr q11)) q11
set_option maxRecDepth 100000 in
set_option maxHeartbeats 4000000 in
theorem W_X9_takeName_34 {X : pX} {Q : pO → Nat → pF → Prop} (S : pS) (l0 : Nat) (l1 : Int32) (r : (Int32 × pS) ⊕ (String × pS)) (hf : F_X9_takeName_34 S l0 l1 = some r) (hk : Sum.elim (fun q => Q (.inl (some (.int q.1))) q.2.1 q.2.2) (fun q => ∀ n', q.2.1 ≤ n' → Q (.inr q.1) n' (gjunk q.2.2 q.2.1)) r) : gW X mX9_takeName 34 [some (.ref l0), some (.int l1)] [] S.1 S.2 Q 1 6 := by
  unfold F_X9_takeName_34 at hf
  refine r_aload_n (pc := 34) dX9_takeName_34 rfl ?_
  obtain ⟨q11, e12, hf⟩ := obind hf
  rcases q11 with q11 | q11
  · replace hf := hf
    refine q_callV (pc := 35) (v := none) (S' := q11) mX9_failText 9 [] dX9_takeName_35 kX9_351 fX9_failText iX9_failText ⟨by decide, by decide⟩ rfl rfl rfl (Nat.le_of_ble_eq_true rfl) (og e12) (mc1 := 1) (ms1 := 6) (mc2 := 0) (ms2 := 0) (by decide) (by decide) (C_X9_failText S l0 (.inl q11) e12 (qR_mk _ _)) ?_
    refine gW.mono (mc := 0) (ms := 0) ?_ (fun _ _ _ q => q) (by decide) (by decide)
    exact gW.weak (by simp [gle]) (W_X9_takeName_38 q11 l0 l1 r hf hk)
  · replace hf := hf
    refine q_callVt (pc := 35) (E := q11.1) (S' := q11.2) mX9_failText 9 [] dX9_takeName_35 kX9_351 fX9_failText iX9_failText ⟨by decide, by decide⟩ rfl rfl rfl (Nat.le_of_ble_eq_true rfl) (og e12) (mc1 := 1) (ms1 := 6) (by decide) (by decide) (C_X9_failText S l0 (.inr q11) e12 (qX_mk _ _)) ?_
    cases hf
    exact hk
def F_X9_takeName (S : pS) (a0 : Nat) : Option ((Int32 × pS) ⊕ (String × pS)) := (oF S a0 9).bind fun _ => (oGA S a0 9 10).bind fun x1 => (F_X7_start S x1).bind fun q3 => (oGA q3 a0 9 10).bind fun x5 => (oGA q3 a0 9 13).bind fun x7 => (F_X7_takeLetters q3 x5 x7 (0 : Int32)).bind fun q9 => if q9.1 = 0 then (F_X9_takeName_34 q9.2 a0 q9.1) else ((oGA q9.2 a0 9 10).bind fun x17 => (F_X7_isAtEnd q9.2 x17).bind fun q19 => if ¬ q19 = 0 then (F_X9_takeName_38 q9.2 a0 q9.1) else (F_X9_takeName_34 q9.2 a0 q9.1))
set_option maxRecDepth 100000 in
set_option maxHeartbeats 4000000 in
theorem C_X9_takeName {X : pX} {Q : pO → Nat → pF → Prop} (S : pS) (a0 : Nat) (r : (Int32 × pS) ⊕ (String × pS)) (hf : F_X9_takeName S a0 = some r) (hk : Sum.elim (fun q => Q (.inl (some (.int q.1))) q.2.1 q.2.2) (fun q => ∀ n', q.2.1 ≤ n' → Q (.inr q.1) n' (gjunk q.2.2 q.2.1)) r) : gC X mX9_takeName [.ref a0] S.1 S.2 Q 1 6 := by
  refine gC_of (by decide) (Nat.le_of_ble_eq_true rfl) ?_
  change gW _ _ _ [some (.ref a0), none] _ _ _ _ _ _
  unfold F_X9_takeName at hf
  obtain ⟨_, _, hf⟩ := obind hf
  refine r_aload_n (pc := 0) dX9_takeName_0 rfl ?_
  obtain ⟨x1, e2, hf⟩ := obind hf
  refine q_getA (pc := 1) dX9_takeName_1 gX9_66 e2 ?_
  obtain ⟨q3, e4, hf⟩ := obind hf
  refine q_callV (pc := 4) (v := none) (S' := q3) mX7_start 7 [] dX9_takeName_4 kX9_428 fX7_start iX7_start ⟨by decide, by decide⟩ rfl rfl rfl (Nat.le_of_ble_eq_true rfl) (og e4) (mc1 := 0) (ms1 := 0) (mc2 := 1) (ms2 := 6) (by decide) (by decide) (C_X7_start S x1 q3 e4 (qR_mk _ _)) ?_
  refine r_aload_n (pc := 7) dX9_takeName_7 rfl ?_
  obtain ⟨x5, e6, hf⟩ := obind hf
  refine q_getA (pc := 8) dX9_takeName_8 gX9_66 e6 ?_
  refine r_aload_n (pc := 11) dX9_takeName_11 rfl ?_
  obtain ⟨x7, e8, hf⟩ := obind hf
  refine q_getA (pc := 12) dX9_takeName_12 gX9_84 e8 ?_
  refine r_iconst (pc := 15) (0 : Int32) dX9_takeName_15 (by decide) ?_
  obtain ⟨q9, e10, hf⟩ := obind hf
  refine q_callV (pc := 16) (v := some (.int q9.1)) (S' := q9.2) mX7_takeLetters 7 [.ref x7, .int (0 : Int32)] dX9_takeName_16 kX9_431 fX7_takeLetters iX7_takeLetters ⟨by decide, by decide⟩ rfl rfl rfl (Nat.le_of_ble_eq_true rfl) (og e10) (mc1 := 0) (ms1 := 0) (mc2 := 1) (ms2 := 6) (by decide) (by decide) (C_X7_takeLetters q3 x5 x7 (0 : Int32) q9 e10 (qR_mk _ _)) ?_
  change gW _ _ _ _ (.int q9.1 :: _) _ _ _ _ _
  refine r_istore_n (pc := 19) dX9_takeName_19 (by decide) ?_
  change gW _ _ _ [some (.ref a0), some (.int q9.1)] _ _ _ _ _ _
  refine r_iload_n (pc := 20) dX9_takeName_20 rfl ?_
  refine r_if_eq (pc := 21) 34 dX9_takeName_21 (by decide) (fun hc => ?_) (fun hc => ?_)
  · rw [if_pos hc] at hf
    refine gW.mono (mc := 1) (ms := 6) ?_ (fun _ _ _ q => q) (by decide) (by decide)
    exact gW.weak (by simp [gle]) (W_X9_takeName_34 q9.2 a0 q9.1 r hf hk)
  · rw [if_neg hc] at hf
    refine r_aload_n (pc := 24) dX9_takeName_24 rfl ?_
    obtain ⟨x17, e18, hf⟩ := obind hf
    refine q_getA (pc := 25) dX9_takeName_25 gX9_66 e18 ?_
    obtain ⟨q19, e20, hf⟩ := obind hf
    refine q_callV (pc := 28) (v := some (.int q19)) (S' := q9.2) mX7_isAtEnd 7 [] dX9_takeName_28 kX9_435 fX7_isAtEnd iX7_isAtEnd ⟨by decide, by decide⟩ rfl rfl rfl (Nat.le_of_ble_eq_true rfl) (og e20) (mc1 := 0) (ms1 := 0) (mc2 := 1) (ms2 := 6) (by decide) (by decide) (C_X7_isAtEnd q9.2 x17 q19 e20 (qR_mk _ _)) ?_
    change gW _ _ _ _ (.int q19 :: _) _ _ _ _ _
    refine r_if_ne (pc := 31) 38 dX9_takeName_31 (by decide) (fun hc => ?_) (fun hc => ?_)
    · rw [if_pos hc] at hf
      refine gW.mono (mc := 0) (ms := 0) ?_ (fun _ _ _ q => q) (by decide) (by decide)
      exact gW.weak (by simp [gle]) (W_X9_takeName_38 q9.2 a0 q9.1 r hf hk)
    · rw [if_neg hc] at hf
      refine gW.mono (mc := 1) (ms := 6) ?_ (fun _ _ _ q => q) (by decide) (by decide)
      exact gW.weak (by simp [gle]) (W_X9_takeName_34 q9.2 a0 q9.1 r hf hk)
def F_X9_adoptDraft (S : pS) (a0 : Nat) : Option (pS) := (oF S a0 9).bind fun _ => (oGA S a0 9 5).bind fun x1 => (oGA S a0 9 0).bind fun x3 => (F_X3_push S x1 x3).bind fun q5 => (oGA q5.2 a0 9 1).bind fun x7 => (oPA q5.2 a0 9 0 x7).bind fun S9 => (oPA S9 a0 9 1 q5.1).bind fun S11 => (F_X9_settle S11 a0).bind fun q13 => some q13
set_option maxRecDepth 100000 in
set_option maxHeartbeats 4000000 in
theorem C_X9_adoptDraft {X : pX} {Q : pO → Nat → pF → Prop} (S : pS) (a0 : Nat) (r : pS) (hf : F_X9_adoptDraft S a0 = some r) (hk : Q (.inl none) r.1 r.2) : gC X mX9_adoptDraft [.ref a0] S.1 S.2 Q 7 1596 := by
  refine gC_of (by decide) (Nat.le_of_ble_eq_true rfl) ?_
  change gW _ _ _ [some (.ref a0), none] _ _ _ _ _ _
  unfold F_X9_adoptDraft at hf
  obtain ⟨_, _, hf⟩ := obind hf
  refine r_aload_n (pc := 0) dX9_adoptDraft_0 rfl ?_
  obtain ⟨x1, e2, hf⟩ := obind hf
  refine q_getA (pc := 1) dX9_adoptDraft_1 gX9_35 e2 ?_
  refine r_aload_n (pc := 4) dX9_adoptDraft_4 rfl ?_
  obtain ⟨x3, e4, hf⟩ := obind hf
  refine q_getA (pc := 5) dX9_adoptDraft_5 gX9_12 e4 ?_
  obtain ⟨q5, e6, hf⟩ := obind hf
  refine q_callV (pc := 8) (v := some (.ref q5.1)) (S' := q5.2) mX3_push 3 [.ref x3] dX9_adoptDraft_8 kX9_422 fX3_push iX3_push ⟨by decide, by decide⟩ rfl rfl rfl (Nat.le_of_ble_eq_true rfl) (og e6) (mc1 := 7) (ms1 := 1596) (mc2 := 0) (ms2 := 0) (by decide) (by decide) (C_X3_push S x1 x3 q5 e6 (qR_mk _ _)) ?_
  change gW _ _ _ _ (.ref q5.1 :: _) _ _ _ _ _
  refine r_astore_n (pc := 11) dX9_adoptDraft_11 (by decide) ?_
  change gW _ _ _ [some (.ref a0), some (.ref q5.1)] _ _ _ _ _ _
  refine r_aload_n (pc := 12) dX9_adoptDraft_12 rfl ?_
  refine r_aload_n (pc := 13) dX9_adoptDraft_13 rfl ?_
  obtain ⟨x7, e8, hf⟩ := obind hf
  refine q_getA (pc := 14) dX9_adoptDraft_14 gX9_16 e8 ?_
  obtain ⟨S9, e10, hf⟩ := obind hf
  refine q_putA (pc := 17) dX9_adoptDraft_17 pX9_12 (Or.inl ⟨_, rfl⟩) e10 ?_
  refine r_aload_n (pc := 20) dX9_adoptDraft_20 rfl ?_
  refine r_aload_n (pc := 21) dX9_adoptDraft_21 rfl ?_
  obtain ⟨S11, e12, hf⟩ := obind hf
  refine q_putA (pc := 22) dX9_adoptDraft_22 pX9_16 (Or.inl ⟨_, rfl⟩) e12 ?_
  refine r_aload_n (pc := 25) dX9_adoptDraft_25 rfl ?_
  obtain ⟨q13, e14, hf⟩ := obind hf
  refine q_callV (pc := 26) (v := none) (S' := q13) mX9_settle 9 [] dX9_adoptDraft_26 kX9_111 fX9_settle iX9_settle ⟨by decide, by decide⟩ rfl rfl rfl (Nat.le_of_ble_eq_true rfl) (og e14) (mc1 := 0) (ms1 := 0) (mc2 := 0) (ms2 := 0) (by decide) (by decide) (C_X9_settle S11 a0 q13 e14 (qR_mk _ _)) ?_
  refine r_return (pc := 29) dX9_adoptDraft_29 rfl ?_
  cases hf
  exact hk
def F_X9_add (S : pS) (a0 : Nat) (a1 : Int32) (a2 : Int32) : Option ((Int32 × pS) ⊕ (String × pS)) := (oF S a0 9).bind fun _ => (F_X9_needItem S a0 a1).bind fun q1 => Sum.elim (fun q1 => (oGA q1 a0 9 0).bind fun x3 => (F_X8_childCount q1 x3 a1).bind fun q5 => (F_X9_needGap q1 a0 a2 q5).bind fun q7 => Sum.elim (fun q7 => (F_X9_takeName q7 a0).bind fun q9 => Sum.elim (fun q9 => (oGA q9.2 a0 9 3).bind fun x11 => (oGA q9.2 a0 9 0).bind fun x13 => (F_X6_reasonAgainstNew q9.2 x11 x13 a1).bind fun q15 => if q15 = 0 then ((oGA q9.2 a0 9 1).bind fun x17 => (oGA q9.2 a0 9 0).bind fun x19 => (F_X8_copyFrom q9.2 x17 x19).bind fun q21 => (oGA q21 a0 9 1).bind fun x23 => (oGA q21 a0 9 13).bind fun x25 => (F_X8_makeItem q21 x23 x25 (0 : Int32) q9.1).bind fun q27 => (oGA q27.2 a0 9 1).bind fun x29 => (F_X8_insertChild q27.2 x29 a1 a2 q27.1).bind fun q31 => (F_X9_adoptDraft q31 a0).bind fun q33 => some (.inl (q27.1, q33))) else ((oGA q9.2 a0 9 12).bind fun x35 => (F_X0_keep q9.2 x35 (10 : Int32) (0 : Int32) q15).bind fun q37 => some (.inr ("java/lang/UnsupportedOperationException", q37)))) (fun q9 => some (.inr q9)) q9) (fun q7 => some (.inr q7)) q7) (fun q1 => some (.inr q1)) q1
set_option maxRecDepth 100000 in
set_option maxHeartbeats 4000000 in
theorem C_X9_add {X : pX} {Q : pO → Nat → pF → Prop} (S : pS) (a0 : Nat) (a1 : Int32) (a2 : Int32) (r : (Int32 × pS) ⊕ (String × pS)) (hf : F_X9_add S a0 a1 a2 = some r) (hk : Sum.elim (fun q => Q (.inl (some (.int q.1))) q.2.1 q.2.2) (fun q => ∀ n', q.2.1 ≤ n' → Q (.inr q.1) n' (gjunk q.2.2 q.2.1)) r) : gC X mX9_add [.ref a0, .int a1, .int a2] S.1 S.2 Q 10 1614 := by
  refine gC_of (by decide) (Nat.le_of_ble_eq_true rfl) ?_
  change gW _ _ _ [some (.ref a0), some (.int a1), some (.int a2), none, none, none] _ _ _ _ _ _
  unfold F_X9_add at hf
  obtain ⟨_, _, hf⟩ := obind hf
  refine r_aload_n (pc := 0) dX9_add_0 rfl ?_
  refine r_iload_n (pc := 1) dX9_add_1 rfl ?_
  obtain ⟨q1, e2, hf⟩ := obind hf
  rcases q1 with q1 | q1
  · replace hf := hf
    refine q_callV (pc := 2) (v := none) (S' := q1) mX9_needItem 9 [.int a1] dX9_add_2 kX9_137 fX9_needItem iX9_needItem ⟨by decide, by decide⟩ rfl rfl rfl (Nat.le_of_ble_eq_true rfl) (og e2) (mc1 := 1) (ms1 := 6) (mc2 := 9) (ms2 := 1608) (by decide) (by decide) (C_X9_needItem S a0 a1 (.inl q1) e2 (qR_mk _ _)) ?_
    refine r_aload_n (pc := 5) dX9_add_5 rfl ?_
    refine r_iload_n (pc := 6) dX9_add_6 rfl ?_
    refine r_aload_n (pc := 7) dX9_add_7 rfl ?_
    obtain ⟨x3, e4, hf⟩ := obind hf
    refine q_getA (pc := 8) dX9_add_8 gX9_12 e4 ?_
    refine r_iload_n (pc := 11) dX9_add_11 rfl ?_
    obtain ⟨q5, e6, hf⟩ := obind hf
    refine q_callV (pc := 12) (v := some (.int q5)) (S' := q1) mX8_childCount 8 [.int a1] dX9_add_12 kX9_141 fX8_childCount iX8_childCount ⟨by decide, by decide⟩ rfl rfl rfl (Nat.le_of_ble_eq_true rfl) (og e6) (mc1 := 0) (ms1 := 0) (mc2 := 9) (ms2 := 1608) (by decide) (by decide) (C_X8_childCount q1 x3 a1 q5 e6 (qR_mk _ _)) ?_
    change gW _ _ _ _ (.int q5 :: _) _ _ _ _ _
    obtain ⟨q7, e8, hf⟩ := obind hf
    rcases q7 with q7 | q7
    · replace hf := hf
      refine q_callV (pc := 15) (v := none) (S' := q7) mX9_needGap 9 [.int a2, .int q5] dX9_add_15 kX9_145 fX9_needGap iX9_needGap ⟨by decide, by decide⟩ rfl rfl rfl (Nat.le_of_ble_eq_true rfl) (og e8) (mc1 := 1) (ms1 := 6) (mc2 := 8) (ms2 := 1602) (by decide) (by decide) (C_X9_needGap q1 a0 a2 q5 (.inl q7) e8 (qR_mk _ _)) ?_
      refine r_aload_n (pc := 18) dX9_add_18 rfl ?_
      obtain ⟨q9, e10, hf⟩ := obind hf
      rcases q9 with q9 | q9
      · replace hf := hf
        refine q_callV (pc := 19) (v := some (.int q9.1)) (S' := q9.2) mX9_takeName 9 [] dX9_add_19 kX9_149 fX9_takeName iX9_takeName ⟨by decide, by decide⟩ rfl rfl rfl (Nat.le_of_ble_eq_true rfl) (og e10) (mc1 := 1) (ms1 := 6) (mc2 := 7) (ms2 := 1596) (by decide) (by decide) (C_X9_takeName q7 a0 (.inl q9) e10 (qR_mk _ _)) ?_
        change gW _ _ _ _ (.int q9.1 :: _) _ _ _ _ _
        refine r_istore_n (pc := 22) dX9_add_22 (by decide) ?_
        change gW _ _ _ [some (.ref a0), some (.int a1), some (.int a2), some (.int q9.1), none, none] _ _ _ _ _ _
        refine r_aload_n (pc := 23) dX9_add_23 rfl ?_
        obtain ⟨x11, e12, hf⟩ := obind hf
        refine q_getA (pc := 24) dX9_add_24 gX9_25 e12 ?_
        refine r_aload_n (pc := 27) dX9_add_27 rfl ?_
        obtain ⟨x13, e14, hf⟩ := obind hf
        refine q_getA (pc := 28) dX9_add_28 gX9_12 e14 ?_
        refine r_iload_n (pc := 31) dX9_add_31 rfl ?_
        obtain ⟨q15, e16, hf⟩ := obind hf
        refine q_callV (pc := 32) (v := some (.int q15)) (S' := q9.2) mX6_reasonAgainstNew 6 [.ref x13, .int a1] dX9_add_32 kX9_152 fX6_reasonAgainstNew iX6_reasonAgainstNew ⟨by decide, by decide⟩ rfl rfl rfl (Nat.le_of_ble_eq_true rfl) (og e16) (mc1 := 0) (ms1 := 0) (mc2 := 7) (ms2 := 1596) (by decide) (by decide) (C_X6_reasonAgainstNew q9.2 x11 x13 a1 q15 e16 (qR_mk _ _)) ?_
        change gW _ _ _ _ (.int q15 :: _) _ _ _ _ _
        refine r_istore (pc := 35) dX9_add_35 (by decide) ?_
        change gW _ _ _ [some (.ref a0), some (.int a1), some (.int a2), some (.int q9.1), some (.int q15), none] _ _ _ _ _ _
        refine r_iload (pc := 37) dX9_add_37 rfl ?_
        refine r_if_eq (pc := 39) 64 dX9_add_39 (by decide) (fun hc => ?_) (fun hc => ?_)
        · rw [if_pos hc] at hf
          refine r_aload_n (pc := 64) dX9_add_64 rfl ?_
          obtain ⟨x17, e18, hf⟩ := obind hf
          refine q_getA (pc := 65) dX9_add_65 gX9_16 e18 ?_
          refine r_aload_n (pc := 68) dX9_add_68 rfl ?_
          obtain ⟨x19, e20, hf⟩ := obind hf
          refine q_getA (pc := 69) dX9_add_69 gX9_12 e20 ?_
          obtain ⟨q21, e22, hf⟩ := obind hf
          refine q_callV (pc := 72) (v := none) (S' := q21) mX8_copyFrom 8 [.ref x19] dX9_add_72 kX9_165 fX8_copyFrom iX8_copyFrom ⟨by decide, by decide⟩ rfl rfl rfl (Nat.le_of_ble_eq_true rfl) (og e22) (mc1 := 0) (ms1 := 0) (mc2 := 7) (ms2 := 1596) (by decide) (by decide) (C_X8_copyFrom q9.2 x17 x19 q21 e22 (qR_mk _ _)) ?_
          refine r_aload_n (pc := 75) dX9_add_75 rfl ?_
          obtain ⟨x23, e24, hf⟩ := obind hf
          refine q_getA (pc := 76) dX9_add_76 gX9_16 e24 ?_
          refine r_aload_n (pc := 79) dX9_add_79 rfl ?_
          obtain ⟨x25, e26, hf⟩ := obind hf
          refine q_getA (pc := 80) dX9_add_80 gX9_84 e26 ?_
          refine r_iconst (pc := 83) (0 : Int32) dX9_add_83 (by decide) ?_
          refine r_iload_n (pc := 84) dX9_add_84 rfl ?_
          obtain ⟨q27, e28, hf⟩ := obind hf
          refine q_callV (pc := 85) (v := some (.int q27.1)) (S' := q27.2) mX8_makeItem 8 [.ref x25, .int (0 : Int32), .int q9.1] dX9_add_85 kX9_169 fX8_makeItem iX8_makeItem ⟨by decide, by decide⟩ rfl rfl rfl (Nat.le_of_ble_eq_true rfl) (og e28) (mc1 := 0) (ms1 := 0) (mc2 := 7) (ms2 := 1596) (by decide) (by decide) (C_X8_makeItem q21 x23 x25 (0 : Int32) q9.1 q27 e28 (qR_mk _ _)) ?_
          change gW _ _ _ _ (.int q27.1 :: _) _ _ _ _ _
          refine r_istore (pc := 88) dX9_add_88 (by decide) ?_
          change gW _ _ _ [some (.ref a0), some (.int a1), some (.int a2), some (.int q9.1), some (.int q15), some (.int q27.1)] _ _ _ _ _ _
          refine r_aload_n (pc := 90) dX9_add_90 rfl ?_
          obtain ⟨x29, e30, hf⟩ := obind hf
          refine q_getA (pc := 91) dX9_add_91 gX9_16 e30 ?_
          refine r_iload_n (pc := 94) dX9_add_94 rfl ?_
          refine r_iload_n (pc := 95) dX9_add_95 rfl ?_
          refine r_iload (pc := 96) dX9_add_96 rfl ?_
          obtain ⟨q31, e32, hf⟩ := obind hf
          refine q_callV (pc := 98) (v := none) (S' := q31) mX8_insertChild 8 [.int a1, .int a2, .int q27.1] dX9_add_98 kX9_173 fX8_insertChild iX8_insertChild ⟨by decide, by decide⟩ rfl rfl rfl (Nat.le_of_ble_eq_true rfl) (og e32) (mc1 := 0) (ms1 := 0) (mc2 := 7) (ms2 := 1596) (by decide) (by decide) (C_X8_insertChild q27.2 x29 a1 a2 q27.1 q31 e32 (qR_mk _ _)) ?_
          refine r_aload_n (pc := 101) dX9_add_101 rfl ?_
          obtain ⟨q33, e34, hf⟩ := obind hf
          refine q_callV (pc := 102) (v := none) (S' := q33) mX9_adoptDraft 9 [] dX9_add_102 kX9_176 fX9_adoptDraft iX9_adoptDraft ⟨by decide, by decide⟩ rfl rfl rfl (Nat.le_of_ble_eq_true rfl) (og e34) (mc1 := 7) (ms1 := 1596) (mc2 := 0) (ms2 := 0) (by decide) (by decide) (C_X9_adoptDraft q31 a0 q33 e34 (qR_mk _ _)) ?_
          refine r_iload (pc := 105) dX9_add_105 rfl ?_
          refine r_ireturn (pc := 107) .int dX9_add_107 rfl rfl ?_
          cases hf
          exact hk
        · rw [if_neg hc] at hf
          refine r_aload_n (pc := 42) dX9_add_42 rfl ?_
          obtain ⟨x35, e36, hf⟩ := obind hf
          refine q_getA (pc := 43) dX9_add_43 gX9_80 e36 ?_
          refine r_bipush (pc := 46) (10 : Int32) dX9_add_46 (by decide) ?_
          refine r_iconst (pc := 48) (0 : Int32) dX9_add_48 (by decide) ?_
          refine r_iload (pc := 49) dX9_add_49 rfl ?_
          obtain ⟨q37, e38, hf⟩ := obind hf
          refine q_callV (pc := 51) (v := none) (S' := q37) mX0_keep 0 [.int (10 : Int32), .int (0 : Int32), .int q15] dX9_add_51 kX9_156 fX0_keep iX0_keep ⟨by decide, by decide⟩ rfl rfl rfl (Nat.le_of_ble_eq_true rfl) (og e38) (mc1 := 0) (ms1 := 0) (mc2 := 1) (ms2 := 6) (by decide) (by decide) (C_X0_keep q9.2 x35 (10 : Int32) (0 : Int32) q15 q37 e38 (qR_mk _ _)) ?_
          refine r_throw (pc := 54) "java/lang/UnsupportedOperationException" 13 dX9_add_54 dX9_add_57 dX9_add_58 dX9_add_60 dX9_add_63 xX9_160_164 rfl ⟨by decide, Nat.le_of_ble_eq_true rfl⟩ (by decide) (by decide) ?_
          cases hf
          exact hk
      · replace hf := hf
        refine q_callVt (pc := 19) (E := q9.1) (S' := q9.2) mX9_takeName 9 [] dX9_add_19 kX9_149 fX9_takeName iX9_takeName ⟨by decide, by decide⟩ rfl rfl rfl (Nat.le_of_ble_eq_true rfl) (og e10) (mc1 := 1) (ms1 := 6) (by decide) (by decide) (C_X9_takeName q7 a0 (.inr q9) e10 (qX_mk _ _)) ?_
        cases hf
        exact hk
    · replace hf := hf
      refine q_callVt (pc := 15) (E := q7.1) (S' := q7.2) mX9_needGap 9 [.int a2, .int q5] dX9_add_15 kX9_145 fX9_needGap iX9_needGap ⟨by decide, by decide⟩ rfl rfl rfl (Nat.le_of_ble_eq_true rfl) (og e8) (mc1 := 1) (ms1 := 6) (by decide) (by decide) (C_X9_needGap q1 a0 a2 q5 (.inr q7) e8 (qX_mk _ _)) ?_
      cases hf
      exact hk
  · replace hf := hf
    refine q_callVt (pc := 2) (E := q1.1) (S' := q1.2) mX9_needItem 9 [.int a1] dX9_add_2 kX9_137 fX9_needItem iX9_needItem ⟨by decide, by decide⟩ rfl rfl rfl (Nat.le_of_ble_eq_true rfl) (og e2) (mc1 := 1) (ms1 := 6) (by decide) (by decide) (C_X9_needItem S a0 a1 (.inr q1) e2 (qX_mk _ _)) ?_
    cases hf
    exact hk
def F_X9_needNamedItem_15 (S : pS) : Option ((pS) ⊕ (String × pS)) := some (.inr ("java/util/NoSuchElementException", S))
set_option maxRecDepth 100000 in
set_option maxHeartbeats 4000000 in
theorem W_X9_needNamedItem_15 {X : pX} {Q : pO → Nat → pF → Prop} (S : pS) (r : (pS) ⊕ (String × pS)) (hf : F_X9_needNamedItem_15 S = some r) (hk : Sum.elim (fun q => Q (.inl none) q.1 q.2) (fun q => ∀ n', q.2.1 ≤ n' → Q (.inr q.1) n' (gjunk q.2.2 q.2.1)) r) : gW X mX9_needNamedItem 15 [none, none] [] S.1 S.2 Q 1 6 := by
  unfold F_X9_needNamedItem_15 at hf
  refine r_throwW (pc := 15) "java/util/NoSuchElementException" 14 dX9_needNamedItem_15 dX9_needNamedItem_18 dX9_needNamedItem_19 dX9_needNamedItem_22 dX9_needNamedItem_25 xX9_404_408 rfl ⟨by decide, Nat.le_of_ble_eq_true rfl⟩ (by decide) (by decide) ?_
  cases hf
  exact hk
def F_X9_needNamedItem (S : pS) (a0 : Nat) (a1 : Int32) : Option ((pS) ⊕ (String × pS)) := (oF S a0 9).bind fun _ => if a1 = 0 then (F_X9_needNamedItem_15 S) else ((oGA S a0 9 0).bind fun x1 => (F_X8_holds S x1 a1).bind fun q3 => if ¬ q3 = 0 then (some (.inl S)) else (F_X9_needNamedItem_15 S))
set_option maxRecDepth 100000 in
set_option maxHeartbeats 4000000 in
theorem C_X9_needNamedItem {X : pX} {Q : pO → Nat → pF → Prop} (S : pS) (a0 : Nat) (a1 : Int32) (r : (pS) ⊕ (String × pS)) (hf : F_X9_needNamedItem S a0 a1 = some r) (hk : Sum.elim (fun q => Q (.inl none) q.1 q.2) (fun q => ∀ n', q.2.1 ≤ n' → Q (.inr q.1) n' (gjunk q.2.2 q.2.1)) r) : gC X mX9_needNamedItem [.ref a0, .int a1] S.1 S.2 Q 1 6 := by
  refine gC_of (by decide) (Nat.le_of_ble_eq_true rfl) ?_
  change gW _ _ _ [some (.ref a0), some (.int a1)] _ _ _ _ _ _
  unfold F_X9_needNamedItem at hf
  obtain ⟨_, _, hf⟩ := obind hf
  refine r_iload_n (pc := 0) dX9_needNamedItem_0 rfl ?_
  refine r_if_eq (pc := 1) 15 dX9_needNamedItem_1 (by decide) (fun hc => ?_) (fun hc => ?_)
  · rw [if_pos hc] at hf
    refine gW.mono (mc := 1) (ms := 6) ?_ (fun _ _ _ q => q) (by decide) (by decide)
    exact gW.weak (by simp [gle]) (W_X9_needNamedItem_15 S r hf hk)
  · rw [if_neg hc] at hf
    refine r_aload_n (pc := 4) dX9_needNamedItem_4 rfl ?_
    obtain ⟨x1, e2, hf⟩ := obind hf
    refine q_getA (pc := 5) dX9_needNamedItem_5 gX9_12 e2 ?_
    refine r_iload_n (pc := 8) dX9_needNamedItem_8 rfl ?_
    obtain ⟨q3, e4, hf⟩ := obind hf
    refine q_callV (pc := 9) (v := some (.int q3)) (S' := S) mX8_holds 8 [.int a1] dX9_needNamedItem_9 kX9_401 fX8_holds iX8_holds ⟨by decide, by decide⟩ rfl rfl rfl (Nat.le_of_ble_eq_true rfl) (og e4) (mc1 := 0) (ms1 := 0) (mc2 := 1) (ms2 := 6) (by decide) (by decide) (C_X8_holds S x1 a1 q3 e4 (qR_mk _ _)) ?_
    change gW _ _ _ _ (.int q3 :: _) _ _ _ _ _
    refine r_if_ne (pc := 12) 26 dX9_needNamedItem_12 (by decide) (fun hc => ?_) (fun hc => ?_)
    · rw [if_pos hc] at hf
      refine r_return (pc := 26) dX9_needNamedItem_26 rfl ?_
      cases hf
      exact hk
    · rw [if_neg hc] at hf
      refine gW.mono (mc := 1) (ms := 6) ?_ (fun _ _ _ q => q) (by decide) (by decide)
      exact gW.weak (by simp [gle]) (W_X9_needNamedItem_15 S r hf hk)
def F_X9_clone (S : pS) (a0 : Nat) (a1 : Int32) (a2 : Int32) (a3 : Int32) : Option ((Int32 × pS) ⊕ (String × pS)) := (oF S a0 9).bind fun _ => (F_X9_needNamedItem S a0 a1).bind fun q1 => Sum.elim (fun q1 => (F_X9_needItem q1 a0 a2).bind fun q3 => Sum.elim (fun q3 => (oGA q3 a0 9 0).bind fun x5 => (F_X8_childCount q3 x5 a2).bind fun q7 => (F_X9_needGap q3 a0 a3 q7).bind fun q9 => Sum.elim (fun q9 => (oGA q9 a0 9 3).bind fun x11 => (oGA q9 a0 9 0).bind fun x13 => (F_X6_reasonAgainst q9 x11 x13 a1 a2).bind fun q15 => if q15 = 0 then ((oGA q9 a0 9 1).bind fun x17 => (oGA q9 a0 9 0).bind fun x19 => (F_X8_copyFrom q9 x17 x19).bind fun q21 => (oGA q21 a0 9 1).bind fun x23 => (F_X8_insertChild q21 x23 a2 a3 a1).bind fun q25 => (F_X9_adoptDraft q25 a0).bind fun q27 => (oGA q27 a0 9 3).bind fun x29 => (F_X6_placesOf q27 x29 a1).bind fun q31 => some (.inl (q31, q27))) else ((oGA q9 a0 9 12).bind fun x33 => (F_X0_keep q9 x33 (20 : Int32) (0 : Int32) q15).bind fun q35 => some (.inr ("java/lang/UnsupportedOperationException", q35)))) (fun q9 => some (.inr q9)) q9) (fun q3 => some (.inr q3)) q3) (fun q1 => some (.inr q1)) q1
set_option maxRecDepth 100000 in
set_option maxHeartbeats 4000000 in
theorem C_X9_clone {X : pX} {Q : pO → Nat → pF → Prop} (S : pS) (a0 : Nat) (a1 : Int32) (a2 : Int32) (a3 : Int32) (r : (Int32 × pS) ⊕ (String × pS)) (hf : F_X9_clone S a0 a1 a2 a3 = some r) (hk : Sum.elim (fun q => Q (.inl (some (.int q.1))) q.2.1 q.2.2) (fun q => ∀ n', q.2.1 ≤ n' → Q (.inr q.1) n' (gjunk q.2.2 q.2.1)) r) : gC X mX9_clone [.ref a0, .int a1, .int a2, .int a3] S.1 S.2 Q 10 1614 := by
  refine gC_of (by decide) (Nat.le_of_ble_eq_true rfl) ?_
  change gW _ _ _ [some (.ref a0), some (.int a1), some (.int a2), some (.int a3), none] _ _ _ _ _ _
  unfold F_X9_clone at hf
  obtain ⟨_, _, hf⟩ := obind hf
  refine r_aload_n (pc := 0) dX9_clone_0 rfl ?_
  refine r_iload_n (pc := 1) dX9_clone_1 rfl ?_
  obtain ⟨q1, e2, hf⟩ := obind hf
  rcases q1 with q1 | q1
  · replace hf := hf
    refine q_callV (pc := 2) (v := none) (S' := q1) mX9_needNamedItem 9 [.int a1] dX9_clone_2 kX9_179 fX9_needNamedItem iX9_needNamedItem ⟨by decide, by decide⟩ rfl rfl rfl (Nat.le_of_ble_eq_true rfl) (og e2) (mc1 := 1) (ms1 := 6) (mc2 := 9) (ms2 := 1608) (by decide) (by decide) (C_X9_needNamedItem S a0 a1 (.inl q1) e2 (qR_mk _ _)) ?_
    refine r_aload_n (pc := 5) dX9_clone_5 rfl ?_
    refine r_iload_n (pc := 6) dX9_clone_6 rfl ?_
    obtain ⟨q3, e4, hf⟩ := obind hf
    rcases q3 with q3 | q3
    · replace hf := hf
      refine q_callV (pc := 7) (v := none) (S' := q3) mX9_needItem 9 [.int a2] dX9_clone_7 kX9_137 fX9_needItem iX9_needItem ⟨by decide, by decide⟩ rfl rfl rfl (Nat.le_of_ble_eq_true rfl) (og e4) (mc1 := 1) (ms1 := 6) (mc2 := 8) (ms2 := 1602) (by decide) (by decide) (C_X9_needItem q1 a0 a2 (.inl q3) e4 (qR_mk _ _)) ?_
      refine r_aload_n (pc := 10) dX9_clone_10 rfl ?_
      refine r_iload_n (pc := 11) dX9_clone_11 rfl ?_
      refine r_aload_n (pc := 12) dX9_clone_12 rfl ?_
      obtain ⟨x5, e6, hf⟩ := obind hf
      refine q_getA (pc := 13) dX9_clone_13 gX9_12 e6 ?_
      refine r_iload_n (pc := 16) dX9_clone_16 rfl ?_
      obtain ⟨q7, e8, hf⟩ := obind hf
      refine q_callV (pc := 17) (v := some (.int q7)) (S' := q3) mX8_childCount 8 [.int a2] dX9_clone_17 kX9_141 fX8_childCount iX8_childCount ⟨by decide, by decide⟩ rfl rfl rfl (Nat.le_of_ble_eq_true rfl) (og e8) (mc1 := 0) (ms1 := 0) (mc2 := 8) (ms2 := 1602) (by decide) (by decide) (C_X8_childCount q3 x5 a2 q7 e8 (qR_mk _ _)) ?_
      change gW _ _ _ _ (.int q7 :: _) _ _ _ _ _
      obtain ⟨q9, e10, hf⟩ := obind hf
      rcases q9 with q9 | q9
      · replace hf := hf
        refine q_callV (pc := 20) (v := none) (S' := q9) mX9_needGap 9 [.int a3, .int q7] dX9_clone_20 kX9_145 fX9_needGap iX9_needGap ⟨by decide, by decide⟩ rfl rfl rfl (Nat.le_of_ble_eq_true rfl) (og e10) (mc1 := 1) (ms1 := 6) (mc2 := 7) (ms2 := 1596) (by decide) (by decide) (C_X9_needGap q3 a0 a3 q7 (.inl q9) e10 (qR_mk _ _)) ?_
        refine r_aload_n (pc := 23) dX9_clone_23 rfl ?_
        obtain ⟨x11, e12, hf⟩ := obind hf
        refine q_getA (pc := 24) dX9_clone_24 gX9_25 e12 ?_
        refine r_aload_n (pc := 27) dX9_clone_27 rfl ?_
        obtain ⟨x13, e14, hf⟩ := obind hf
        refine q_getA (pc := 28) dX9_clone_28 gX9_12 e14 ?_
        refine r_iload_n (pc := 31) dX9_clone_31 rfl ?_
        refine r_iload_n (pc := 32) dX9_clone_32 rfl ?_
        obtain ⟨q15, e16, hf⟩ := obind hf
        refine q_callV (pc := 33) (v := some (.int q15)) (S' := q9) mX6_reasonAgainst 6 [.ref x13, .int a1, .int a2] dX9_clone_33 kX9_182 fX6_reasonAgainst iX6_reasonAgainst ⟨by decide, by decide⟩ rfl rfl rfl (Nat.le_of_ble_eq_true rfl) (og e16) (mc1 := 0) (ms1 := 0) (mc2 := 7) (ms2 := 1596) (by decide) (by decide) (C_X6_reasonAgainst q9 x11 x13 a1 a2 q15 e16 (qR_mk _ _)) ?_
        change gW _ _ _ _ (.int q15 :: _) _ _ _ _ _
        refine r_istore (pc := 36) dX9_clone_36 (by decide) ?_
        change gW _ _ _ [some (.ref a0), some (.int a1), some (.int a2), some (.int a3), some (.int q15)] _ _ _ _ _ _
        refine r_iload (pc := 38) dX9_clone_38 rfl ?_
        refine r_if_eq (pc := 40) 65 dX9_clone_40 (by decide) (fun hc => ?_) (fun hc => ?_)
        · rw [if_pos hc] at hf
          refine r_aload_n (pc := 65) dX9_clone_65 rfl ?_
          obtain ⟨x17, e18, hf⟩ := obind hf
          refine q_getA (pc := 66) dX9_clone_66 gX9_16 e18 ?_
          refine r_aload_n (pc := 69) dX9_clone_69 rfl ?_
          obtain ⟨x19, e20, hf⟩ := obind hf
          refine q_getA (pc := 70) dX9_clone_70 gX9_12 e20 ?_
          obtain ⟨q21, e22, hf⟩ := obind hf
          refine q_callV (pc := 73) (v := none) (S' := q21) mX8_copyFrom 8 [.ref x19] dX9_clone_73 kX9_165 fX8_copyFrom iX8_copyFrom ⟨by decide, by decide⟩ rfl rfl rfl (Nat.le_of_ble_eq_true rfl) (og e22) (mc1 := 0) (ms1 := 0) (mc2 := 7) (ms2 := 1596) (by decide) (by decide) (C_X8_copyFrom q9 x17 x19 q21 e22 (qR_mk _ _)) ?_
          refine r_aload_n (pc := 76) dX9_clone_76 rfl ?_
          obtain ⟨x23, e24, hf⟩ := obind hf
          refine q_getA (pc := 77) dX9_clone_77 gX9_16 e24 ?_
          refine r_iload_n (pc := 80) dX9_clone_80 rfl ?_
          refine r_iload_n (pc := 81) dX9_clone_81 rfl ?_
          refine r_iload_n (pc := 82) dX9_clone_82 rfl ?_
          obtain ⟨q25, e26, hf⟩ := obind hf
          refine q_callV (pc := 83) (v := none) (S' := q25) mX8_insertChild 8 [.int a2, .int a3, .int a1] dX9_clone_83 kX9_173 fX8_insertChild iX8_insertChild ⟨by decide, by decide⟩ rfl rfl rfl (Nat.le_of_ble_eq_true rfl) (og e26) (mc1 := 0) (ms1 := 0) (mc2 := 7) (ms2 := 1596) (by decide) (by decide) (C_X8_insertChild q21 x23 a2 a3 a1 q25 e26 (qR_mk _ _)) ?_
          refine r_aload_n (pc := 86) dX9_clone_86 rfl ?_
          obtain ⟨q27, e28, hf⟩ := obind hf
          refine q_callV (pc := 87) (v := none) (S' := q27) mX9_adoptDraft 9 [] dX9_clone_87 kX9_176 fX9_adoptDraft iX9_adoptDraft ⟨by decide, by decide⟩ rfl rfl rfl (Nat.le_of_ble_eq_true rfl) (og e28) (mc1 := 7) (ms1 := 1596) (mc2 := 0) (ms2 := 0) (by decide) (by decide) (C_X9_adoptDraft q25 a0 q27 e28 (qR_mk _ _)) ?_
          refine r_aload_n (pc := 90) dX9_clone_90 rfl ?_
          obtain ⟨x29, e30, hf⟩ := obind hf
          refine q_getA (pc := 91) dX9_clone_91 gX9_25 e30 ?_
          refine r_iload_n (pc := 94) dX9_clone_94 rfl ?_
          obtain ⟨q31, e32, hf⟩ := obind hf
          refine q_callV (pc := 95) (v := some (.int q31)) (S' := q27) mX6_placesOf 6 [.int a1] dX9_clone_95 kX9_186 fX6_placesOf iX6_placesOf ⟨by decide, by decide⟩ rfl rfl rfl (Nat.le_of_ble_eq_true rfl) (og e32) (mc1 := 0) (ms1 := 0) (mc2 := 0) (ms2 := 0) (by decide) (by decide) (C_X6_placesOf q27 x29 a1 q31 e32 (qR_mk _ _)) ?_
          change gW _ _ _ _ (.int q31 :: _) _ _ _ _ _
          refine r_ireturn (pc := 98) .int dX9_clone_98 rfl rfl ?_
          cases hf
          exact hk
        · rw [if_neg hc] at hf
          refine r_aload_n (pc := 43) dX9_clone_43 rfl ?_
          obtain ⟨x33, e34, hf⟩ := obind hf
          refine q_getA (pc := 44) dX9_clone_44 gX9_80 e34 ?_
          refine r_bipush (pc := 47) (20 : Int32) dX9_clone_47 (by decide) ?_
          refine r_iconst (pc := 49) (0 : Int32) dX9_clone_49 (by decide) ?_
          refine r_iload (pc := 50) dX9_clone_50 rfl ?_
          obtain ⟨q35, e36, hf⟩ := obind hf
          refine q_callV (pc := 52) (v := none) (S' := q35) mX0_keep 0 [.int (20 : Int32), .int (0 : Int32), .int q15] dX9_clone_52 kX9_156 fX0_keep iX0_keep ⟨by decide, by decide⟩ rfl rfl rfl (Nat.le_of_ble_eq_true rfl) (og e36) (mc1 := 0) (ms1 := 0) (mc2 := 1) (ms2 := 6) (by decide) (by decide) (C_X0_keep q9 x33 (20 : Int32) (0 : Int32) q15 q35 e36 (qR_mk _ _)) ?_
          refine r_throw (pc := 55) "java/lang/UnsupportedOperationException" 13 dX9_clone_55 dX9_clone_58 dX9_clone_59 dX9_clone_61 dX9_clone_64 xX9_160_164 rfl ⟨by decide, Nat.le_of_ble_eq_true rfl⟩ (by decide) (by decide) ?_
          cases hf
          exact hk
      · replace hf := hf
        refine q_callVt (pc := 20) (E := q9.1) (S' := q9.2) mX9_needGap 9 [.int a3, .int q7] dX9_clone_20 kX9_145 fX9_needGap iX9_needGap ⟨by decide, by decide⟩ rfl rfl rfl (Nat.le_of_ble_eq_true rfl) (og e10) (mc1 := 1) (ms1 := 6) (by decide) (by decide) (C_X9_needGap q3 a0 a3 q7 (.inr q9) e10 (qX_mk _ _)) ?_
        cases hf
        exact hk
    · replace hf := hf
      refine q_callVt (pc := 7) (E := q3.1) (S' := q3.2) mX9_needItem 9 [.int a2] dX9_clone_7 kX9_137 fX9_needItem iX9_needItem ⟨by decide, by decide⟩ rfl rfl rfl (Nat.le_of_ble_eq_true rfl) (og e4) (mc1 := 1) (ms1 := 6) (by decide) (by decide) (C_X9_needItem q1 a0 a2 (.inr q3) e4 (qX_mk _ _)) ?_
      cases hf
      exact hk
  · replace hf := hf
    refine q_callVt (pc := 2) (E := q1.1) (S' := q1.2) mX9_needNamedItem 9 [.int a1] dX9_clone_2 kX9_179 fX9_needNamedItem iX9_needNamedItem ⟨by decide, by decide⟩ rfl rfl rfl (Nat.le_of_ble_eq_true rfl) (og e2) (mc1 := 1) (ms1 := 6) (by decide) (by decide) (C_X9_needNamedItem S a0 a1 (.inr q1) e2 (qX_mk _ _)) ?_
    cases hf
    exact hk
def F_X9_needIndex_9 (S : pS) : Option ((pS) ⊕ (String × pS)) := some (.inr ("java/lang/IndexOutOfBoundsException", S))
set_option maxRecDepth 100000 in
set_option maxHeartbeats 4000000 in
theorem W_X9_needIndex_9 {X : pX} {Q : pO → Nat → pF → Prop} (S : pS) (r : (pS) ⊕ (String × pS)) (hf : F_X9_needIndex_9 S = some r) (hk : Sum.elim (fun q => Q (.inl none) q.1 q.2) (fun q => ∀ n', q.2.1 ≤ n' → Q (.inr q.1) n' (gjunk q.2.2 q.2.1)) r) : gW X mX9_needIndex 9 [none, none, none] [] S.1 S.2 Q 1 6 := by
  unfold F_X9_needIndex_9 at hf
  refine r_throwW (pc := 9) "java/lang/IndexOutOfBoundsException" 15 dX9_needIndex_9 dX9_needIndex_12 dX9_needIndex_13 dX9_needIndex_16 dX9_needIndex_19 xX9_206_210 rfl ⟨by decide, Nat.le_of_ble_eq_true rfl⟩ (by decide) (by decide) ?_
  cases hf
  exact hk
def F_X9_needIndex (S : pS) (a0 : Nat) (a1 : Int32) (a2 : Int32) : Option ((pS) ⊕ (String × pS)) := (oF S a0 9).bind fun _ => if a1 < 0 then (F_X9_needIndex_9 S) else (if a1 < a2 then (some (.inl S)) else (F_X9_needIndex_9 S))
set_option maxRecDepth 100000 in
set_option maxHeartbeats 4000000 in
theorem C_X9_needIndex {X : pX} {Q : pO → Nat → pF → Prop} (S : pS) (a0 : Nat) (a1 : Int32) (a2 : Int32) (r : (pS) ⊕ (String × pS)) (hf : F_X9_needIndex S a0 a1 a2 = some r) (hk : Sum.elim (fun q => Q (.inl none) q.1 q.2) (fun q => ∀ n', q.2.1 ≤ n' → Q (.inr q.1) n' (gjunk q.2.2 q.2.1)) r) : gC X mX9_needIndex [.ref a0, .int a1, .int a2] S.1 S.2 Q 1 6 := by
  refine gC_of (by decide) (Nat.le_of_ble_eq_true rfl) ?_
  change gW _ _ _ [some (.ref a0), some (.int a1), some (.int a2)] _ _ _ _ _ _
  unfold F_X9_needIndex at hf
  obtain ⟨_, _, hf⟩ := obind hf
  refine r_iload_n (pc := 0) dX9_needIndex_0 rfl ?_
  refine r_if_lt (pc := 1) 9 dX9_needIndex_1 (by decide) (fun hc => ?_) (fun hc => ?_)
  · rw [if_pos hc] at hf
    refine gW.mono (mc := 1) (ms := 6) ?_ (fun _ _ _ q => q) (by decide) (by decide)
    exact gW.weak (by simp [gle]) (W_X9_needIndex_9 S r hf hk)
  · rw [if_neg hc] at hf
    refine r_iload_n (pc := 4) dX9_needIndex_4 rfl ?_
    refine r_iload_n (pc := 5) dX9_needIndex_5 rfl ?_
    refine r_icmp_lt (pc := 6) 20 dX9_needIndex_6 (by decide) (fun hc => ?_) (fun hc => ?_)
    · rw [if_pos hc] at hf
      refine r_return (pc := 20) dX9_needIndex_20 rfl ?_
      cases hf
      exact hk
    · rw [if_neg hc] at hf
      refine gW.mono (mc := 1) (ms := 6) ?_ (fun _ _ _ q => q) (by decide) (by decide)
      exact gW.weak (by simp [gle]) (W_X9_needIndex_9 S r hf hk)
def F_X9_detach (S : pS) (a0 : Nat) (a1 : Int32) (a2 : Int32) : Option ((Int32 × pS) ⊕ (String × pS)) := (oF S a0 9).bind fun _ => (F_X9_needItem S a0 a1).bind fun q1 => Sum.elim (fun q1 => (oGA q1 a0 9 0).bind fun x3 => (F_X8_childCount q1 x3 a1).bind fun q5 => (F_X9_needIndex q1 a0 a2 q5).bind fun q7 => Sum.elim (fun q7 => (oGA q7 a0 9 1).bind fun x9 => (oGA q7 a0 9 0).bind fun x11 => (F_X8_copyFrom q7 x9 x11).bind fun q13 => (oGA q13 a0 9 1).bind fun x15 => (F_X8_removeChild q13 x15 a1 a2).bind fun q17 => (oGA q17 a0 9 4).bind fun x19 => (oGA q17 a0 9 1).bind fun x21 => (F_X6_measure q17 x19 x21).bind fun q23 => (oGA q23 a0 9 1).bind fun x25 => (oGA q23 a0 9 4).bind fun x27 => (F_X6_familyOf q23 x27 (0 : Int32)).bind fun q29 => (F_X8_keepOnly q23 x25 q29).bind fun q31 => (F_X9_adoptDraft q31.2 a0).bind fun q33 => some (.inl (q31.1, q33))) (fun q7 => some (.inr q7)) q7) (fun q1 => some (.inr q1)) q1
set_option maxRecDepth 100000 in
set_option maxHeartbeats 4000000 in
theorem C_X9_detach {X : pX} {Q : pO → Nat → pF → Prop} (S : pS) (a0 : Nat) (a1 : Int32) (a2 : Int32) (r : (Int32 × pS) ⊕ (String × pS)) (hf : F_X9_detach S a0 a1 a2 = some r) (hk : Sum.elim (fun q => Q (.inl (some (.int q.1))) q.2.1 q.2.2) (fun q => ∀ n', q.2.1 ≤ n' → Q (.inr q.1) n' (gjunk q.2.2 q.2.1)) r) : gC X mX9_detach [.ref a0, .int a1, .int a2] S.1 S.2 Q 9 1608 := by
  refine gC_of (by decide) (Nat.le_of_ble_eq_true rfl) ?_
  change gW _ _ _ [some (.ref a0), some (.int a1), some (.int a2), none] _ _ _ _ _ _
  unfold F_X9_detach at hf
  obtain ⟨_, _, hf⟩ := obind hf
  refine r_aload_n (pc := 0) dX9_detach_0 rfl ?_
  refine r_iload_n (pc := 1) dX9_detach_1 rfl ?_
  obtain ⟨q1, e2, hf⟩ := obind hf
  rcases q1 with q1 | q1
  · replace hf := hf
    refine q_callV (pc := 2) (v := none) (S' := q1) mX9_needItem 9 [.int a1] dX9_detach_2 kX9_137 fX9_needItem iX9_needItem ⟨by decide, by decide⟩ rfl rfl rfl (Nat.le_of_ble_eq_true rfl) (og e2) (mc1 := 1) (ms1 := 6) (mc2 := 8) (ms2 := 1602) (by decide) (by decide) (C_X9_needItem S a0 a1 (.inl q1) e2 (qR_mk _ _)) ?_
    refine r_aload_n (pc := 5) dX9_detach_5 rfl ?_
    refine r_iload_n (pc := 6) dX9_detach_6 rfl ?_
    refine r_aload_n (pc := 7) dX9_detach_7 rfl ?_
    obtain ⟨x3, e4, hf⟩ := obind hf
    refine q_getA (pc := 8) dX9_detach_8 gX9_12 e4 ?_
    refine r_iload_n (pc := 11) dX9_detach_11 rfl ?_
    obtain ⟨q5, e6, hf⟩ := obind hf
    refine q_callV (pc := 12) (v := some (.int q5)) (S' := q1) mX8_childCount 8 [.int a1] dX9_detach_12 kX9_141 fX8_childCount iX8_childCount ⟨by decide, by decide⟩ rfl rfl rfl (Nat.le_of_ble_eq_true rfl) (og e6) (mc1 := 0) (ms1 := 0) (mc2 := 8) (ms2 := 1602) (by decide) (by decide) (C_X8_childCount q1 x3 a1 q5 e6 (qR_mk _ _)) ?_
    change gW _ _ _ _ (.int q5 :: _) _ _ _ _ _
    obtain ⟨q7, e8, hf⟩ := obind hf
    rcases q7 with q7 | q7
    · replace hf := hf
      refine q_callV (pc := 15) (v := none) (S' := q7) mX9_needIndex 9 [.int a2, .int q5] dX9_detach_15 kX9_189 fX9_needIndex iX9_needIndex ⟨by decide, by decide⟩ rfl rfl rfl (Nat.le_of_ble_eq_true rfl) (og e8) (mc1 := 1) (ms1 := 6) (mc2 := 7) (ms2 := 1596) (by decide) (by decide) (C_X9_needIndex q1 a0 a2 q5 (.inl q7) e8 (qR_mk _ _)) ?_
      refine r_aload_n (pc := 18) dX9_detach_18 rfl ?_
      obtain ⟨x9, e10, hf⟩ := obind hf
      refine q_getA (pc := 19) dX9_detach_19 gX9_16 e10 ?_
      refine r_aload_n (pc := 22) dX9_detach_22 rfl ?_
      obtain ⟨x11, e12, hf⟩ := obind hf
      refine q_getA (pc := 23) dX9_detach_23 gX9_12 e12 ?_
      obtain ⟨q13, e14, hf⟩ := obind hf
      refine q_callV (pc := 26) (v := none) (S' := q13) mX8_copyFrom 8 [.ref x11] dX9_detach_26 kX9_165 fX8_copyFrom iX8_copyFrom ⟨by decide, by decide⟩ rfl rfl rfl (Nat.le_of_ble_eq_true rfl) (og e14) (mc1 := 0) (ms1 := 0) (mc2 := 7) (ms2 := 1596) (by decide) (by decide) (C_X8_copyFrom q7 x9 x11 q13 e14 (qR_mk _ _)) ?_
      refine r_aload_n (pc := 29) dX9_detach_29 rfl ?_
      obtain ⟨x15, e16, hf⟩ := obind hf
      refine q_getA (pc := 30) dX9_detach_30 gX9_16 e16 ?_
      refine r_iload_n (pc := 33) dX9_detach_33 rfl ?_
      refine r_iload_n (pc := 34) dX9_detach_34 rfl ?_
      obtain ⟨q17, e18, hf⟩ := obind hf
      refine q_callV (pc := 35) (v := none) (S' := q17) mX8_removeChild 8 [.int a1, .int a2] dX9_detach_35 kX9_192 fX8_removeChild iX8_removeChild ⟨by decide, by decide⟩ rfl rfl rfl (Nat.le_of_ble_eq_true rfl) (og e18) (mc1 := 0) (ms1 := 0) (mc2 := 7) (ms2 := 1596) (by decide) (by decide) (C_X8_removeChild q13 x15 a1 a2 q17 e18 (qR_mk _ _)) ?_
      refine r_aload_n (pc := 38) dX9_detach_38 rfl ?_
      obtain ⟨x19, e20, hf⟩ := obind hf
      refine q_getA (pc := 39) dX9_detach_39 gX9_29 e20 ?_
      refine r_aload_n (pc := 42) dX9_detach_42 rfl ?_
      obtain ⟨x21, e22, hf⟩ := obind hf
      refine q_getA (pc := 43) dX9_detach_43 gX9_16 e22 ?_
      obtain ⟨q23, e24, hf⟩ := obind hf
      refine q_callV (pc := 46) (v := none) (S' := q23) mX6_measure 6 [.ref x21] dX9_detach_46 kX9_195 fX6_measure iX6_measure ⟨by decide, by decide⟩ rfl rfl rfl (Nat.le_of_ble_eq_true rfl) (og e24) (mc1 := 0) (ms1 := 0) (mc2 := 7) (ms2 := 1596) (by decide) (by decide) (C_X6_measure q17 x19 x21 q23 e24 (qR_mk _ _)) ?_
      refine r_aload_n (pc := 49) dX9_detach_49 rfl ?_
      obtain ⟨x25, e26, hf⟩ := obind hf
      refine q_getA (pc := 50) dX9_detach_50 gX9_16 e26 ?_
      refine r_aload_n (pc := 53) dX9_detach_53 rfl ?_
      obtain ⟨x27, e28, hf⟩ := obind hf
      refine q_getA (pc := 54) dX9_detach_54 gX9_29 e28 ?_
      refine r_iconst (pc := 57) (0 : Int32) dX9_detach_57 (by decide) ?_
      obtain ⟨q29, e30, hf⟩ := obind hf
      refine q_callV (pc := 58) (v := some (.long q29)) (S' := q23) mX6_familyOf 6 [.int (0 : Int32)] dX9_detach_58 kX9_198 fX6_familyOf iX6_familyOf ⟨by decide, by decide⟩ rfl rfl rfl (Nat.le_of_ble_eq_true rfl) (og e30) (mc1 := 0) (ms1 := 0) (mc2 := 7) (ms2 := 1596) (by decide) (by decide) (C_X6_familyOf q23 x27 (0 : Int32) q29 e30 (qR_mk _ _)) ?_
      change gW _ _ _ _ (.long q29 :: _) _ _ _ _ _
      obtain ⟨q31, e32, hf⟩ := obind hf
      refine q_callV (pc := 61) (v := some (.int q31.1)) (S' := q31.2) mX8_keepOnly 8 [.long q29] dX9_detach_61 kX9_202 fX8_keepOnly iX8_keepOnly ⟨by decide, by decide⟩ rfl rfl rfl (Nat.le_of_ble_eq_true rfl) (og e32) (mc1 := 0) (ms1 := 0) (mc2 := 7) (ms2 := 1596) (by decide) (by decide) (C_X8_keepOnly q23 x25 q29 q31 e32 (qR_mk _ _)) ?_
      change gW _ _ _ _ (.int q31.1 :: _) _ _ _ _ _
      refine r_istore_n (pc := 64) dX9_detach_64 (by decide) ?_
      change gW _ _ _ [some (.ref a0), some (.int a1), some (.int a2), some (.int q31.1)] _ _ _ _ _ _
      refine r_aload_n (pc := 65) dX9_detach_65 rfl ?_
      obtain ⟨q33, e34, hf⟩ := obind hf
      refine q_callV (pc := 66) (v := none) (S' := q33) mX9_adoptDraft 9 [] dX9_detach_66 kX9_176 fX9_adoptDraft iX9_adoptDraft ⟨by decide, by decide⟩ rfl rfl rfl (Nat.le_of_ble_eq_true rfl) (og e34) (mc1 := 7) (ms1 := 1596) (mc2 := 0) (ms2 := 0) (by decide) (by decide) (C_X9_adoptDraft q31.2 a0 q33 e34 (qR_mk _ _)) ?_
      refine r_iload_n (pc := 69) dX9_detach_69 rfl ?_
      refine r_ireturn (pc := 70) .int dX9_detach_70 rfl rfl ?_
      cases hf
      exact hk
    · replace hf := hf
      refine q_callVt (pc := 15) (E := q7.1) (S' := q7.2) mX9_needIndex 9 [.int a2, .int q5] dX9_detach_15 kX9_189 fX9_needIndex iX9_needIndex ⟨by decide, by decide⟩ rfl rfl rfl (Nat.le_of_ble_eq_true rfl) (og e8) (mc1 := 1) (ms1 := 6) (by decide) (by decide) (C_X9_needIndex q1 a0 a2 q5 (.inr q7) e8 (qX_mk _ _)) ?_
      cases hf
      exact hk
  · replace hf := hf
    refine q_callVt (pc := 2) (E := q1.1) (S' := q1.2) mX9_needItem 9 [.int a1] dX9_detach_2 kX9_137 fX9_needItem iX9_needItem ⟨by decide, by decide⟩ rfl rfl rfl (Nat.le_of_ble_eq_true rfl) (og e2) (mc1 := 1) (ms1 := 6) (by decide) (by decide) (C_X9_needItem S a0 a1 (.inr q1) e2 (qX_mk _ _)) ?_
    cases hf
    exact hk
abbrev L_X9_takeBlock_3 (l0 : Nat) (l1 : Int32) (l2 : Int32) (l3 : Int32) : Int32 × pS → List (Option Value) := fun a => [some (.ref l0), some (.int l1), some (.int l2), some (.int l3), some (.int a.1)]
abbrev s_X9_takeBlock_3 (l0 : Nat) (l1 : Int32) (l2 : Int32) (l3 : Int32) : Int32 × pS → pS := fun a => a.2
abbrev K_X9_takeBlock_3 (X : pX) (Q : pO → Nat → pF → Prop) (mc ms : Nat) (l0 : Nat) (l1 : Int32) (l2 : Int32) (l3 : Int32) : pS → Prop := (fun b => gW X mX9_takeBlock 40 [some (.ref l0), some (.int l1), some (.int l2), some (.int l3), none] [] b.1 b.2 Q mc ms)
def F_X9_takeBlock_3 (l0 : Nat) (l1 : Int32) (l2 : Int32) (l3 : Int32) : Int32 × pS → Option ((Int32 × pS) ⊕ (pS)) := fun a => if l3 ≤ a.1 then (some (.inr a.2)) else ((oGA a.2 l0 9 14).bind fun x1 => (oGA a.2 l0 9 1).bind fun x3 => (F_X8_childAt a.2 x3 l1 l2).bind fun q5 => (oSI a.2 x1 .int a.1 q5).bind fun S7 => (oGA S7 l0 9 1).bind fun x9 => (F_X8_removeChild S7 x9 l1 l2).bind fun q11 => some (.inl (a.1 + (1 : Int32), q11)))
set_option maxRecDepth 100000 in
set_option maxHeartbeats 4000000 in
theorem W_X9_takeBlock_3 {X : pX} {Q : pO → Nat → pF → Prop} {mc ms : Nat} (l0 : Nat) (l1 : Int32) (l2 : Int32) (l3 : Int32) : ∀ (a : Int32 × pS) (r : (Int32 × pS) ⊕ (pS)), F_X9_takeBlock_3 l0 l1 l2 l3 a = some r → Sum.elim (fun a' => gW X mX9_takeBlock 3 (L_X9_takeBlock_3 l0 l1 l2 l3 a') [] (s_X9_takeBlock_3 l0 l1 l2 l3 a').1 (s_X9_takeBlock_3 l0 l1 l2 l3 a').2 Q mc ms) (K_X9_takeBlock_3 X Q mc ms l0 l1 l2 l3) r → gW X mX9_takeBlock 3 (L_X9_takeBlock_3 l0 l1 l2 l3 a) [] (s_X9_takeBlock_3 l0 l1 l2 l3 a).1 (s_X9_takeBlock_3 l0 l1 l2 l3 a).2 Q mc ms := by
  intro a r hf hk
  obtain ⟨l4, S⟩ := a
  unfold F_X9_takeBlock_3 at hf
  try dsimp only at hf
  change gW _ _ _ [some (.ref l0), some (.int l1), some (.int l2), some (.int l3), some (.int l4)] _ S.1 S.2 _ _ _
  refine r_iload (pc := 3) dX9_takeBlock_3 rfl ?_
  refine r_iload_n (pc := 5) dX9_takeBlock_5 rfl ?_
  refine r_icmp_ge (pc := 6) 40 dX9_takeBlock_6 (by decide) (fun hc => ?_) (fun hc => ?_)
  · rw [if_pos hc] at hf
    cases hf
    exact gW.weak (by simp [gle]) hk
  · rw [if_neg hc] at hf
    refine r_aload_n (pc := 9) dX9_takeBlock_9 rfl ?_
    obtain ⟨x1, e2, hf⟩ := obind hf
    refine q_getA (pc := 10) dX9_takeBlock_10 gX9_88 e2 ?_
    refine r_iload (pc := 13) dX9_takeBlock_13 rfl ?_
    refine r_aload_n (pc := 15) dX9_takeBlock_15 rfl ?_
    obtain ⟨x3, e4, hf⟩ := obind hf
    refine q_getA (pc := 16) dX9_takeBlock_16 gX9_16 e4 ?_
    refine r_iload_n (pc := 19) dX9_takeBlock_19 rfl ?_
    refine r_iload_n (pc := 20) dX9_takeBlock_20 rfl ?_
    obtain ⟨q5, e6, hf⟩ := obind hf
    refine q_callV (pc := 21) (v := some (.int q5)) (S' := S) mX8_childAt 8 [.int l1, .int l2] dX9_takeBlock_21 kX9_232 fX8_childAt iX8_childAt ⟨by decide, by decide⟩ rfl rfl rfl (Nat.le_of_ble_eq_true rfl) (og e6) (mc1 := 0) (ms1 := 0) (mc2 := mc) (ms2 := ms) (by omega) (by omega) (C_X8_childAt S x3 l1 l2 q5 e6 (qR_mk _ _)) ?_
    change gW _ _ _ _ (.int q5 :: _) _ _ _ _ _
    obtain ⟨S7, e8, hf⟩ := obind hf
    refine q_iast (pc := 24) dX9_takeBlock_24 e8 ?_
    refine r_aload_n (pc := 25) dX9_takeBlock_25 rfl ?_
    obtain ⟨x9, e10, hf⟩ := obind hf
    refine q_getA (pc := 26) dX9_takeBlock_26 gX9_16 e10 ?_
    refine r_iload_n (pc := 29) dX9_takeBlock_29 rfl ?_
    refine r_iload_n (pc := 30) dX9_takeBlock_30 rfl ?_
    obtain ⟨q11, e12, hf⟩ := obind hf
    refine q_callV (pc := 31) (v := none) (S' := q11) mX8_removeChild 8 [.int l1, .int l2] dX9_takeBlock_31 kX9_192 fX8_removeChild iX8_removeChild ⟨by decide, by decide⟩ rfl rfl rfl (Nat.le_of_ble_eq_true rfl) (og e12) (mc1 := 0) (ms1 := 0) (mc2 := mc) (ms2 := ms) (by omega) (by omega) (C_X8_removeChild S7 x9 l1 l2 q11 e12 (qR_mk _ _)) ?_
    refine r_iinc (pc := 34) dX9_takeBlock_34 rfl (by decide) ?_
    change gW _ _ _ [some (.ref l0), some (.int l1), some (.int l2), some (.int l3), some (.int (l4 + (1 : Int32)))] _ _ _ _ _ _
    refine r_goto (pc := 37) 3 dX9_takeBlock_37 (by decide) ?_
    cases hf
    exact gW.weak (by simp [gle]) hk
def F_X9_takeBlock (S : pS) (a0 : Nat) (a1 : Int32) (a2 : Int32) (a3 : Int32) : Option (pS) := (oF S a0 9).bind fun _ => (iter (F_X9_takeBlock_3 a0 a1 a2 a3) fu ((0 : Int32), S)).bind fun r13 => some r13
set_option maxRecDepth 100000 in
set_option maxHeartbeats 4000000 in
theorem C_X9_takeBlock {X : pX} {Q : pO → Nat → pF → Prop} (S : pS) (a0 : Nat) (a1 : Int32) (a2 : Int32) (a3 : Int32) (r : pS) (hf : F_X9_takeBlock S a0 a1 a2 a3 = some r) (hk : Q (.inl none) r.1 r.2) : gC X mX9_takeBlock [.ref a0, .int a1, .int a2, .int a3] S.1 S.2 Q 0 0 := by
  refine gC_of (by decide) (Nat.le_of_ble_eq_true rfl) ?_
  change gW _ _ _ [some (.ref a0), some (.int a1), some (.int a2), some (.int a3), none] _ _ _ _ _ _
  unfold F_X9_takeBlock at hf
  obtain ⟨_, _, hf⟩ := obind hf
  refine r_iconst (pc := 0) (0 : Int32) dX9_takeBlock_0 (by decide) ?_
  refine r_istore (pc := 1) dX9_takeBlock_1 (by decide) ?_
  change gW _ _ _ [some (.ref a0), some (.int a1), some (.int a2), some (.int a3), some (.int (0 : Int32))] _ _ _ _ _ _
  obtain ⟨r13, e14, hf⟩ := obind hf
  refine gW.weak (ls' := [some (.ref a0), some (.int a1), some (.int a2), some (.int a3), some (.int (0 : Int32))]) (by simp [gle]) ?_
  refine g_iter (L := L_X9_takeBlock_3 a0 a1 a2 a3) (s := s_X9_takeBlock_3 a0 a1 a2 a3) (K := K_X9_takeBlock_3 X Q _ _ a0 a1 a2 a3) (W_X9_takeBlock_3 a0 a1 a2 a3) fu ((0 : Int32), S) _ e14 ?_
  show gW _ _ 40 [some (.ref a0), some (.int a1), some (.int a2), some (.int a3), none] [] r13.1 r13.2 _ _ _
  refine r_return (pc := 40) dX9_takeBlock_40 rfl ?_
  cases hf
  exact hk
abbrev L_X9_putBlock_3 (l0 : Nat) (l1 : Int32) (l2 : Int32) (l3 : Int32) (l4 : Int32) : Int32 × pS → List (Option Value) := fun a => [some (.ref l0), some (.int l1), some (.int l2), some (.int l3), some (.int l4), some (.int a.1), none]
abbrev s_X9_putBlock_3 (l0 : Nat) (l1 : Int32) (l2 : Int32) (l3 : Int32) (l4 : Int32) : Int32 × pS → pS := fun a => a.2
abbrev K_X9_putBlock_3 (X : pX) (Q : pO → Nat → pF → Prop) (mc ms : Nat) (l0 : Nat) (l1 : Int32) (l2 : Int32) (l3 : Int32) (l4 : Int32) : (Int32 × Int32 × pS) ⊕ (pS) → Prop := (Sum.elim (fun b => gW X mX9_putBlock 46 [some (.ref l0), some (.int l1), some (.int l2), some (.int l3), some (.int l4), some (.int b.1), some (.int b.2.1)] [] b.2.2.1 b.2.2.2 Q mc ms) (fun b => gW X mX9_putBlock 86 [some (.ref l0), some (.int l1), some (.int l2), some (.int l3), some (.int l4), none, none] [] b.1 b.2 Q mc ms))
def F_X9_putBlock_3 (l0 : Nat) (l1 : Int32) (l2 : Int32) (l3 : Int32) (l4 : Int32) : Int32 × pS → Option ((Int32 × pS) ⊕ ((Int32 × Int32 × pS) ⊕ (pS))) := fun a => if l2 ≤ a.1 then (some (.inr (.inr a.2))) else ((oGA a.2 l0 9 4).bind fun x1 => (oGA a.2 l0 9 1).bind fun x3 => (F_X6_measure a.2 x1 x3).bind fun q5 => (oGA q5 l0 9 4).bind fun x7 => (oGA q5 l0 9 1).bind fun x9 => (oGA q5 l0 9 14).bind fun x11 => (oAI q5 x11 .int a.1).bind fun x13 => (F_X6_reasonAgainst q5 x7 x9 x13 l3).bind fun q15 => if q15 = 0 then ((oGA q5 l0 9 1).bind fun x17 => (oGA q5 l0 9 14).bind fun x19 => (oAI q5 x19 .int a.1).bind fun x21 => (F_X8_insertChild q5 x17 l3 (l4 + a.1) x21).bind fun q23 => some (.inl (a.1 + (1 : Int32), q23))) else (some (.inr (.inl (a.1, q15, q5)))))
set_option maxRecDepth 100000 in
set_option maxHeartbeats 4000000 in
theorem W_X9_putBlock_3 {X : pX} {Q : pO → Nat → pF → Prop} {mc ms : Nat} (l0 : Nat) (l1 : Int32) (l2 : Int32) (l3 : Int32) (l4 : Int32) : ∀ (a : Int32 × pS) (r : (Int32 × pS) ⊕ ((Int32 × Int32 × pS) ⊕ (pS))), F_X9_putBlock_3 l0 l1 l2 l3 l4 a = some r → Sum.elim (fun a' => gW X mX9_putBlock 3 (L_X9_putBlock_3 l0 l1 l2 l3 l4 a') [] (s_X9_putBlock_3 l0 l1 l2 l3 l4 a').1 (s_X9_putBlock_3 l0 l1 l2 l3 l4 a').2 Q mc ms) (K_X9_putBlock_3 X Q mc ms l0 l1 l2 l3 l4) r → gW X mX9_putBlock 3 (L_X9_putBlock_3 l0 l1 l2 l3 l4 a) [] (s_X9_putBlock_3 l0 l1 l2 l3 l4 a).1 (s_X9_putBlock_3 l0 l1 l2 l3 l4 a).2 Q mc ms := by
  intro a r hf hk
  obtain ⟨l5, S⟩ := a
  unfold F_X9_putBlock_3 at hf
  try dsimp only at hf
  change gW _ _ _ [some (.ref l0), some (.int l1), some (.int l2), some (.int l3), some (.int l4), some (.int l5), none] _ S.1 S.2 _ _ _
  refine r_iload (pc := 3) dX9_putBlock_3 rfl ?_
  refine r_iload_n (pc := 5) dX9_putBlock_5 rfl ?_
  refine r_icmp_ge (pc := 6) 86 dX9_putBlock_6 (by decide) (fun hc => ?_) (fun hc => ?_)
  · rw [if_pos hc] at hf
    cases hf
    exact gW.weak (by simp [gle]) hk
  · rw [if_neg hc] at hf
    refine r_aload_n (pc := 9) dX9_putBlock_9 rfl ?_
    obtain ⟨x1, e2, hf⟩ := obind hf
    refine q_getA (pc := 10) dX9_putBlock_10 gX9_29 e2 ?_
    refine r_aload_n (pc := 13) dX9_putBlock_13 rfl ?_
    obtain ⟨x3, e4, hf⟩ := obind hf
    refine q_getA (pc := 14) dX9_putBlock_14 gX9_16 e4 ?_
    obtain ⟨q5, e6, hf⟩ := obind hf
    refine q_callV (pc := 17) (v := none) (S' := q5) mX6_measure 6 [.ref x3] dX9_putBlock_17 kX9_195 fX6_measure iX6_measure ⟨by decide, by decide⟩ rfl rfl rfl (Nat.le_of_ble_eq_true rfl) (og e6) (mc1 := 0) (ms1 := 0) (mc2 := mc) (ms2 := ms) (by omega) (by omega) (C_X6_measure S x1 x3 q5 e6 (qR_mk _ _)) ?_
    refine r_aload_n (pc := 20) dX9_putBlock_20 rfl ?_
    obtain ⟨x7, e8, hf⟩ := obind hf
    refine q_getA (pc := 21) dX9_putBlock_21 gX9_29 e8 ?_
    refine r_aload_n (pc := 24) dX9_putBlock_24 rfl ?_
    obtain ⟨x9, e10, hf⟩ := obind hf
    refine q_getA (pc := 25) dX9_putBlock_25 gX9_16 e10 ?_
    refine r_aload_n (pc := 28) dX9_putBlock_28 rfl ?_
    obtain ⟨x11, e12, hf⟩ := obind hf
    refine q_getA (pc := 29) dX9_putBlock_29 gX9_88 e12 ?_
    refine r_iload (pc := 32) dX9_putBlock_32 rfl ?_
    obtain ⟨x13, e14, hf⟩ := obind hf
    refine q_iald (pc := 34) dX9_putBlock_34 e14 ?_
    refine r_iload_n (pc := 35) dX9_putBlock_35 rfl ?_
    obtain ⟨q15, e16, hf⟩ := obind hf
    refine q_callV (pc := 36) (v := some (.int q15)) (S' := q5) mX6_reasonAgainst 6 [.ref x9, .int x13, .int l3] dX9_putBlock_36 kX9_182 fX6_reasonAgainst iX6_reasonAgainst ⟨by decide, by decide⟩ rfl rfl rfl (Nat.le_of_ble_eq_true rfl) (og e16) (mc1 := 0) (ms1 := 0) (mc2 := mc) (ms2 := ms) (by omega) (by omega) (C_X6_reasonAgainst q5 x7 x9 x13 l3 q15 e16 (qR_mk _ _)) ?_
    change gW _ _ _ _ (.int q15 :: _) _ _ _ _ _
    refine r_istore (pc := 39) dX9_putBlock_39 (by decide) ?_
    change gW _ _ _ [some (.ref l0), some (.int l1), some (.int l2), some (.int l3), some (.int l4), some (.int l5), some (.int q15)] _ _ _ _ _ _
    refine r_iload (pc := 41) dX9_putBlock_41 rfl ?_
    refine r_if_eq (pc := 43) 60 dX9_putBlock_43 (by decide) (fun hc => ?_) (fun hc => ?_)
    · rw [if_pos hc] at hf
      refine r_aload_n (pc := 60) dX9_putBlock_60 rfl ?_
      obtain ⟨x17, e18, hf⟩ := obind hf
      refine q_getA (pc := 61) dX9_putBlock_61 gX9_16 e18 ?_
      refine r_iload_n (pc := 64) dX9_putBlock_64 rfl ?_
      refine r_iload (pc := 65) dX9_putBlock_65 rfl ?_
      refine r_iload (pc := 67) dX9_putBlock_67 rfl ?_
      refine r_iadd (pc := 69) dX9_putBlock_69 ?_
      refine r_aload_n (pc := 70) dX9_putBlock_70 rfl ?_
      obtain ⟨x19, e20, hf⟩ := obind hf
      refine q_getA (pc := 71) dX9_putBlock_71 gX9_88 e20 ?_
      refine r_iload (pc := 74) dX9_putBlock_74 rfl ?_
      obtain ⟨x21, e22, hf⟩ := obind hf
      refine q_iald (pc := 76) dX9_putBlock_76 e22 ?_
      obtain ⟨q23, e24, hf⟩ := obind hf
      refine q_callV (pc := 77) (v := none) (S' := q23) mX8_insertChild 8 [.int l3, .int (l4 + l5), .int x21] dX9_putBlock_77 kX9_173 fX8_insertChild iX8_insertChild ⟨by decide, by decide⟩ rfl rfl rfl (Nat.le_of_ble_eq_true rfl) (og e24) (mc1 := 0) (ms1 := 0) (mc2 := mc) (ms2 := ms) (by omega) (by omega) (C_X8_insertChild q5 x17 l3 (l4 + l5) x21 q23 e24 (qR_mk _ _)) ?_
      refine r_iinc (pc := 80) dX9_putBlock_80 rfl (by decide) ?_
      change gW _ _ _ [some (.ref l0), some (.int l1), some (.int l2), some (.int l3), some (.int l4), some (.int (l5 + (1 : Int32))), some (.int q15)] _ _ _ _ _ _
      refine r_goto (pc := 83) 3 dX9_putBlock_83 (by decide) ?_
      cases hf
      exact gW.weak (by simp [gle]) hk
    · rw [if_neg hc] at hf
      cases hf
      exact gW.weak (by simp [gle]) hk
def F_X9_putBlock (S : pS) (a0 : Nat) (a1 : Int32) (a2 : Int32) (a3 : Int32) (a4 : Int32) : Option (Int32 × pS) := (oF S a0 9).bind fun _ => (iter (F_X9_putBlock_3 a0 a1 a2 a3 a4) fu ((0 : Int32), S)).bind fun r25 => Sum.elim (fun q27 => (oGA q27.2.2 a0 9 12).bind fun x28 => (F_X0_keep q27.2.2 x28 a1 q27.1 q27.2.1).bind fun q30 => some ((0 : Int32), q30)) (fun q27 => some ((1 : Int32), q27)) r25
set_option maxRecDepth 100000 in
set_option maxHeartbeats 4000000 in
theorem C_X9_putBlock {X : pX} {Q : pO → Nat → pF → Prop} (S : pS) (a0 : Nat) (a1 : Int32) (a2 : Int32) (a3 : Int32) (a4 : Int32) (r : Int32 × pS) (hf : F_X9_putBlock S a0 a1 a2 a3 a4 = some r) (hk : Q (.inl (some (.int r.1))) r.2.1 r.2.2) : gC X mX9_putBlock [.ref a0, .int a1, .int a2, .int a3, .int a4] S.1 S.2 Q 0 0 := by
  refine gC_of (by decide) (Nat.le_of_ble_eq_true rfl) ?_
  change gW _ _ _ [some (.ref a0), some (.int a1), some (.int a2), some (.int a3), some (.int a4), none, none] _ _ _ _ _ _
  unfold F_X9_putBlock at hf
  obtain ⟨_, _, hf⟩ := obind hf
  refine r_iconst (pc := 0) (0 : Int32) dX9_putBlock_0 (by decide) ?_
  refine r_istore (pc := 1) dX9_putBlock_1 (by decide) ?_
  change gW _ _ _ [some (.ref a0), some (.int a1), some (.int a2), some (.int a3), some (.int a4), some (.int (0 : Int32)), none] _ _ _ _ _ _
  obtain ⟨r25, e26, hf⟩ := obind hf
  refine gW.weak (ls' := [some (.ref a0), some (.int a1), some (.int a2), some (.int a3), some (.int a4), some (.int (0 : Int32)), none]) (by simp [gle]) ?_
  refine g_iter (L := L_X9_putBlock_3 a0 a1 a2 a3 a4) (s := s_X9_putBlock_3 a0 a1 a2 a3 a4) (K := K_X9_putBlock_3 X Q _ _ a0 a1 a2 a3 a4) (W_X9_putBlock_3 a0 a1 a2 a3 a4) fu ((0 : Int32), S) _ e26 ?_
  rcases r25 with q27 | q27
  · replace hf := hf
    show gW _ _ 46 [some (.ref a0), some (.int a1), some (.int a2), some (.int a3), some (.int a4), some (.int q27.1), some (.int q27.2.1)] [] q27.2.2.1 q27.2.2.2 _ _ _
    refine r_aload_n (pc := 46) dX9_putBlock_46 rfl ?_
    obtain ⟨x28, e29, hf⟩ := obind hf
    refine q_getA (pc := 47) dX9_putBlock_47 gX9_80 e29 ?_
    refine r_iload_n (pc := 50) dX9_putBlock_50 rfl ?_
    refine r_iload (pc := 51) dX9_putBlock_51 rfl ?_
    refine r_iload (pc := 53) dX9_putBlock_53 rfl ?_
    obtain ⟨q30, e31, hf⟩ := obind hf
    refine q_callV (pc := 55) (v := none) (S' := q30) mX0_keep 0 [.int a1, .int q27.1, .int q27.2.1] dX9_putBlock_55 kX9_156 fX0_keep iX0_keep ⟨by decide, by decide⟩ rfl rfl rfl (Nat.le_of_ble_eq_true rfl) (og e31) (mc1 := 0) (ms1 := 0) (mc2 := 0) (ms2 := 0) (by decide) (by decide) (C_X0_keep q27.2.2 x28 a1 q27.1 q27.2.1 q30 e31 (qR_mk _ _)) ?_
    refine r_iconst (pc := 58) (0 : Int32) dX9_putBlock_58 (by decide) ?_
    refine r_ireturn (pc := 59) .boolean dX9_putBlock_59 rfl rfl ?_
    cases hf
    exact hk
  · replace hf := hf
    show gW _ _ 86 [some (.ref a0), some (.int a1), some (.int a2), some (.int a3), some (.int a4), none, none] [] q27.1 q27.2 _ _ _
    refine r_iconst (pc := 86) (1 : Int32) dX9_putBlock_86 (by decide) ?_
    refine r_ireturn (pc := 87) .boolean dX9_putBlock_87 rfl rfl ?_
    cases hf
    exact hk
def F_X9_moveBlock_83 (S : pS) (l0 : Nat) (l1 : Int32) (l2 : Int32) (l4 : Int32) (l5 : Int32) (l6 : Int32) (t0 : Nat) (t1 : Int32) (t2 : Int32) (t3 : Int32) : Option ((Int32 × pS) ⊕ (String × pS)) := (F_X9_needGap S t0 t1 (t2 - t3)).bind fun q21 => Sum.elim (fun q21 => (oGA q21 l0 9 1).bind fun x23 => (oGA q21 l0 9 0).bind fun x25 => (F_X8_copyFrom q21 x23 x25).bind fun q27 => (F_X9_takeBlock q27 l0 l1 l2 l6).bind fun q29 => (F_X9_putBlock q29 l0 (30 : Int32) l6 l4 l5).bind fun q31 => if ¬ q31.1 = 0 then ((F_X9_adoptDraft q31.2 l0).bind fun q33 => some (.inl (l6, q33))) else (some (.inr ("java/lang/UnsupportedOperationException", q31.2)))) (fun q21 => some (.inr q21)) q21
set_option maxRecDepth 100000 in
set_option maxHeartbeats 4000000 in
theorem W_X9_moveBlock_83 {X : pX} {Q : pO → Nat → pF → Prop} (S : pS) (l0 : Nat) (l1 : Int32) (l2 : Int32) (l4 : Int32) (l5 : Int32) (l6 : Int32) (t0 : Nat) (t1 : Int32) (t2 : Int32) (t3 : Int32) (r : (Int32 × pS) ⊕ (String × pS)) (hf : F_X9_moveBlock_83 S l0 l1 l2 l4 l5 l6 t0 t1 t2 t3 = some r) (hk : Sum.elim (fun q => Q (.inl (some (.int q.1))) q.2.1 q.2.2) (fun q => ∀ n', q.2.1 ≤ n' → Q (.inr q.1) n' (gjunk q.2.2 q.2.1)) r) : gW X mX9_moveBlock 83 [some (.ref l0), some (.int l1), some (.int l2), none, some (.int l4), some (.int l5), some (.int l6)] [.int t3, .int t2, .int t1, .ref t0] S.1 S.2 Q 8 1602 := by
  unfold F_X9_moveBlock_83 at hf
  refine r_isub (pc := 83) dX9_moveBlock_83 ?_
  obtain ⟨q21, e22, hf⟩ := obind hf
  rcases q21 with q21 | q21
  · replace hf := hf
    refine q_callV (pc := 84) (v := none) (S' := q21) mX9_needGap 9 [.int t1, .int (t2 - t3)] dX9_moveBlock_84 kX9_145 fX9_needGap iX9_needGap ⟨by decide, by decide⟩ rfl rfl rfl (Nat.le_of_ble_eq_true rfl) (og e22) (mc1 := 1) (ms1 := 6) (mc2 := 7) (ms2 := 1596) (by decide) (by decide) (C_X9_needGap S t0 t1 (t2 - t3) (.inl q21) e22 (qR_mk _ _)) ?_
    refine r_aload_n (pc := 87) dX9_moveBlock_87 rfl ?_
    obtain ⟨x23, e24, hf⟩ := obind hf
    refine q_getA (pc := 88) dX9_moveBlock_88 gX9_16 e24 ?_
    refine r_aload_n (pc := 91) dX9_moveBlock_91 rfl ?_
    obtain ⟨x25, e26, hf⟩ := obind hf
    refine q_getA (pc := 92) dX9_moveBlock_92 gX9_12 e26 ?_
    obtain ⟨q27, e28, hf⟩ := obind hf
    refine q_callV (pc := 95) (v := none) (S' := q27) mX8_copyFrom 8 [.ref x25] dX9_moveBlock_95 kX9_165 fX8_copyFrom iX8_copyFrom ⟨by decide, by decide⟩ rfl rfl rfl (Nat.le_of_ble_eq_true rfl) (og e28) (mc1 := 0) (ms1 := 0) (mc2 := 7) (ms2 := 1596) (by decide) (by decide) (C_X8_copyFrom q21 x23 x25 q27 e28 (qR_mk _ _)) ?_
    refine r_aload_n (pc := 98) dX9_moveBlock_98 rfl ?_
    refine r_iload_n (pc := 99) dX9_moveBlock_99 rfl ?_
    refine r_iload_n (pc := 100) dX9_moveBlock_100 rfl ?_
    refine r_iload (pc := 101) dX9_moveBlock_101 rfl ?_
    obtain ⟨q29, e30, hf⟩ := obind hf
    refine q_callV (pc := 103) (v := none) (S' := q29) mX9_takeBlock 9 [.int l1, .int l2, .int l6] dX9_moveBlock_103 kX9_211 fX9_takeBlock iX9_takeBlock ⟨by decide, by decide⟩ rfl rfl rfl (Nat.le_of_ble_eq_true rfl) (og e30) (mc1 := 0) (ms1 := 0) (mc2 := 7) (ms2 := 1596) (by decide) (by decide) (C_X9_takeBlock q27 l0 l1 l2 l6 q29 e30 (qR_mk _ _)) ?_
    refine r_aload_n (pc := 106) dX9_moveBlock_106 rfl ?_
    refine r_bipush (pc := 107) (30 : Int32) dX9_moveBlock_107 (by decide) ?_
    refine r_iload (pc := 109) dX9_moveBlock_109 rfl ?_
    refine r_iload (pc := 111) dX9_moveBlock_111 rfl ?_
    refine r_iload (pc := 113) dX9_moveBlock_113 rfl ?_
    obtain ⟨q31, e32, hf⟩ := obind hf
    refine q_callV (pc := 115) (v := some (.int q31.1)) (S' := q31.2) mX9_putBlock 9 [.int (30 : Int32), .int l6, .int l4, .int l5] dX9_moveBlock_115 kX9_214 fX9_putBlock iX9_putBlock ⟨by decide, by decide⟩ rfl rfl rfl (Nat.le_of_ble_eq_true rfl) (og e32) (mc1 := 0) (ms1 := 0) (mc2 := 7) (ms2 := 1596) (by decide) (by decide) (C_X9_putBlock q29 l0 (30 : Int32) l6 l4 l5 q31 e32 (qR_mk _ _)) ?_
    change gW _ _ _ _ (.int q31.1 :: _) _ _ _ _ _
    refine r_if_ne (pc := 118) 131 dX9_moveBlock_118 (by decide) (fun hc => ?_) (fun hc => ?_)
    · rw [if_pos hc] at hf
      refine r_aload_n (pc := 131) dX9_moveBlock_131 rfl ?_
      obtain ⟨q33, e34, hf⟩ := obind hf
      refine q_callV (pc := 132) (v := none) (S' := q33) mX9_adoptDraft 9 [] dX9_moveBlock_132 kX9_176 fX9_adoptDraft iX9_adoptDraft ⟨by decide, by decide⟩ rfl rfl rfl (Nat.le_of_ble_eq_true rfl) (og e34) (mc1 := 7) (ms1 := 1596) (mc2 := 0) (ms2 := 0) (by decide) (by decide) (C_X9_adoptDraft q31.2 l0 q33 e34 (qR_mk _ _)) ?_
      refine r_iload (pc := 135) dX9_moveBlock_135 rfl ?_
      refine r_ireturn (pc := 137) .int dX9_moveBlock_137 rfl rfl ?_
      cases hf
      exact hk
    · rw [if_neg hc] at hf
      refine r_throw (pc := 121) "java/lang/UnsupportedOperationException" 13 dX9_moveBlock_121 dX9_moveBlock_124 dX9_moveBlock_125 dX9_moveBlock_127 dX9_moveBlock_130 xX9_160_164 rfl ⟨by decide, Nat.le_of_ble_eq_true rfl⟩ (by decide) (by decide) ?_
      cases hf
      exact hk
  · replace hf := hf
    refine q_callVt (pc := 84) (E := q21.1) (S' := q21.2) mX9_needGap 9 [.int t1, .int (t2 - t3)] dX9_moveBlock_84 kX9_145 fX9_needGap iX9_needGap ⟨by decide, by decide⟩ rfl rfl rfl (Nat.le_of_ble_eq_true rfl) (og e22) (mc1 := 1) (ms1 := 6) (by decide) (by decide) (C_X9_needGap S t0 t1 (t2 - t3) (.inr q21) e22 (qX_mk _ _)) ?_
    cases hf
    exact hk
def F_X9_moveBlock (S : pS) (a0 : Nat) (a1 : Int32) (a2 : Int32) (a3 : Int32) (a4 : Int32) (a5 : Int32) : Option ((Int32 × pS) ⊕ (String × pS)) := (oF S a0 9).bind fun _ => (F_X9_needItem S a0 a1).bind fun q1 => Sum.elim (fun q1 => (F_X9_needItem q1 a0 a4).bind fun q3 => Sum.elim (fun q3 => (oGA q3 a0 9 0).bind fun x5 => (F_X8_childCount q3 x5 a1).bind fun q7 => (F_X9_needIndex q3 a0 a2 q7).bind fun q9 => Sum.elim (fun q9 => (oGA q9 a0 9 0).bind fun x11 => (F_X8_childCount q9 x11 a1).bind fun q13 => (F_X9_needIndex q9 a0 a3 q13).bind fun q15 => Sum.elim (fun q15 => if a2 ≤ a3 then ((oGA q15 a0 9 0).bind fun x17 => (F_X8_childCount q15 x17 a4).bind fun q19 => if ¬ a4 = a1 then (F_X9_moveBlock_83 q15 a0 a1 a2 a4 a5 ((a3 - a2) + (1 : Int32)) a0 a5 q19 (0 : Int32)) else (F_X9_moveBlock_83 q15 a0 a1 a2 a4 a5 ((a3 - a2) + (1 : Int32)) a0 a5 q19 ((a3 - a2) + (1 : Int32)))) else (some (.inr ("java/lang/IndexOutOfBoundsException", q15)))) (fun q15 => some (.inr q15)) q15) (fun q9 => some (.inr q9)) q9) (fun q3 => some (.inr q3)) q3) (fun q1 => some (.inr q1)) q1
set_option maxRecDepth 100000 in
set_option maxHeartbeats 4000000 in
theorem C_X9_moveBlock {X : pX} {Q : pO → Nat → pF → Prop} (S : pS) (a0 : Nat) (a1 : Int32) (a2 : Int32) (a3 : Int32) (a4 : Int32) (a5 : Int32) (r : (Int32 × pS) ⊕ (String × pS)) (hf : F_X9_moveBlock S a0 a1 a2 a3 a4 a5 = some r) (hk : Sum.elim (fun q => Q (.inl (some (.int q.1))) q.2.1 q.2.2) (fun q => ∀ n', q.2.1 ≤ n' → Q (.inr q.1) n' (gjunk q.2.2 q.2.1)) r) : gC X mX9_moveBlock [.ref a0, .int a1, .int a2, .int a3, .int a4, .int a5] S.1 S.2 Q 12 1626 := by
  refine gC_of (by decide) (Nat.le_of_ble_eq_true rfl) ?_
  change gW _ _ _ [some (.ref a0), some (.int a1), some (.int a2), some (.int a3), some (.int a4), some (.int a5), none] _ _ _ _ _ _
  unfold F_X9_moveBlock at hf
  obtain ⟨_, _, hf⟩ := obind hf
  refine r_aload_n (pc := 0) dX9_moveBlock_0 rfl ?_
  refine r_iload_n (pc := 1) dX9_moveBlock_1 rfl ?_
  obtain ⟨q1, e2, hf⟩ := obind hf
  rcases q1 with q1 | q1
  · replace hf := hf
    refine q_callV (pc := 2) (v := none) (S' := q1) mX9_needItem 9 [.int a1] dX9_moveBlock_2 kX9_137 fX9_needItem iX9_needItem ⟨by decide, by decide⟩ rfl rfl rfl (Nat.le_of_ble_eq_true rfl) (og e2) (mc1 := 1) (ms1 := 6) (mc2 := 11) (ms2 := 1620) (by decide) (by decide) (C_X9_needItem S a0 a1 (.inl q1) e2 (qR_mk _ _)) ?_
    refine r_aload_n (pc := 5) dX9_moveBlock_5 rfl ?_
    refine r_iload (pc := 6) dX9_moveBlock_6 rfl ?_
    obtain ⟨q3, e4, hf⟩ := obind hf
    rcases q3 with q3 | q3
    · replace hf := hf
      refine q_callV (pc := 8) (v := none) (S' := q3) mX9_needItem 9 [.int a4] dX9_moveBlock_8 kX9_137 fX9_needItem iX9_needItem ⟨by decide, by decide⟩ rfl rfl rfl (Nat.le_of_ble_eq_true rfl) (og e4) (mc1 := 1) (ms1 := 6) (mc2 := 10) (ms2 := 1614) (by decide) (by decide) (C_X9_needItem q1 a0 a4 (.inl q3) e4 (qR_mk _ _)) ?_
      refine r_aload_n (pc := 11) dX9_moveBlock_11 rfl ?_
      refine r_iload_n (pc := 12) dX9_moveBlock_12 rfl ?_
      refine r_aload_n (pc := 13) dX9_moveBlock_13 rfl ?_
      obtain ⟨x5, e6, hf⟩ := obind hf
      refine q_getA (pc := 14) dX9_moveBlock_14 gX9_12 e6 ?_
      refine r_iload_n (pc := 17) dX9_moveBlock_17 rfl ?_
      obtain ⟨q7, e8, hf⟩ := obind hf
      refine q_callV (pc := 18) (v := some (.int q7)) (S' := q3) mX8_childCount 8 [.int a1] dX9_moveBlock_18 kX9_141 fX8_childCount iX8_childCount ⟨by decide, by decide⟩ rfl rfl rfl (Nat.le_of_ble_eq_true rfl) (og e8) (mc1 := 0) (ms1 := 0) (mc2 := 10) (ms2 := 1614) (by decide) (by decide) (C_X8_childCount q3 x5 a1 q7 e8 (qR_mk _ _)) ?_
      change gW _ _ _ _ (.int q7 :: _) _ _ _ _ _
      obtain ⟨q9, e10, hf⟩ := obind hf
      rcases q9 with q9 | q9
      · replace hf := hf
        refine q_callV (pc := 21) (v := none) (S' := q9) mX9_needIndex 9 [.int a2, .int q7] dX9_moveBlock_21 kX9_189 fX9_needIndex iX9_needIndex ⟨by decide, by decide⟩ rfl rfl rfl (Nat.le_of_ble_eq_true rfl) (og e10) (mc1 := 1) (ms1 := 6) (mc2 := 9) (ms2 := 1608) (by decide) (by decide) (C_X9_needIndex q3 a0 a2 q7 (.inl q9) e10 (qR_mk _ _)) ?_
        refine r_aload_n (pc := 24) dX9_moveBlock_24 rfl ?_
        refine r_iload_n (pc := 25) dX9_moveBlock_25 rfl ?_
        refine r_aload_n (pc := 26) dX9_moveBlock_26 rfl ?_
        obtain ⟨x11, e12, hf⟩ := obind hf
        refine q_getA (pc := 27) dX9_moveBlock_27 gX9_12 e12 ?_
        refine r_iload_n (pc := 30) dX9_moveBlock_30 rfl ?_
        obtain ⟨q13, e14, hf⟩ := obind hf
        refine q_callV (pc := 31) (v := some (.int q13)) (S' := q9) mX8_childCount 8 [.int a1] dX9_moveBlock_31 kX9_141 fX8_childCount iX8_childCount ⟨by decide, by decide⟩ rfl rfl rfl (Nat.le_of_ble_eq_true rfl) (og e14) (mc1 := 0) (ms1 := 0) (mc2 := 9) (ms2 := 1608) (by decide) (by decide) (C_X8_childCount q9 x11 a1 q13 e14 (qR_mk _ _)) ?_
        change gW _ _ _ _ (.int q13 :: _) _ _ _ _ _
        obtain ⟨q15, e16, hf⟩ := obind hf
        rcases q15 with q15 | q15
        · replace hf := hf
          refine q_callV (pc := 34) (v := none) (S' := q15) mX9_needIndex 9 [.int a3, .int q13] dX9_moveBlock_34 kX9_189 fX9_needIndex iX9_needIndex ⟨by decide, by decide⟩ rfl rfl rfl (Nat.le_of_ble_eq_true rfl) (og e16) (mc1 := 1) (ms1 := 6) (mc2 := 8) (ms2 := 1602) (by decide) (by decide) (C_X9_needIndex q9 a0 a3 q13 (.inl q15) e16 (qR_mk _ _)) ?_
          refine r_iload_n (pc := 37) dX9_moveBlock_37 rfl ?_
          refine r_iload_n (pc := 38) dX9_moveBlock_38 rfl ?_
          refine r_icmp_ge (pc := 39) 52 dX9_moveBlock_39 (by decide) (fun hc => ?_) (fun hc => ?_)
          · rw [if_pos hc] at hf
            refine r_iload_n (pc := 52) dX9_moveBlock_52 rfl ?_
            refine r_iload_n (pc := 53) dX9_moveBlock_53 rfl ?_
            refine r_isub (pc := 54) dX9_moveBlock_54 ?_
            refine r_iconst (pc := 55) (1 : Int32) dX9_moveBlock_55 (by decide) ?_
            refine r_iadd (pc := 56) dX9_moveBlock_56 ?_
            refine r_istore (pc := 57) dX9_moveBlock_57 (by decide) ?_
            change gW _ _ _ [some (.ref a0), some (.int a1), some (.int a2), some (.int a3), some (.int a4), some (.int a5), some (.int ((a3 - a2) + (1 : Int32)))] _ _ _ _ _ _
            refine r_aload_n (pc := 59) dX9_moveBlock_59 rfl ?_
            refine r_iload (pc := 60) dX9_moveBlock_60 rfl ?_
            refine r_aload_n (pc := 62) dX9_moveBlock_62 rfl ?_
            obtain ⟨x17, e18, hf⟩ := obind hf
            refine q_getA (pc := 63) dX9_moveBlock_63 gX9_12 e18 ?_
            refine r_iload (pc := 66) dX9_moveBlock_66 rfl ?_
            obtain ⟨q19, e20, hf⟩ := obind hf
            refine q_callV (pc := 68) (v := some (.int q19)) (S' := q15) mX8_childCount 8 [.int a4] dX9_moveBlock_68 kX9_141 fX8_childCount iX8_childCount ⟨by decide, by decide⟩ rfl rfl rfl (Nat.le_of_ble_eq_true rfl) (og e20) (mc1 := 0) (ms1 := 0) (mc2 := 8) (ms2 := 1602) (by decide) (by decide) (C_X8_childCount q15 x17 a4 q19 e20 (qR_mk _ _)) ?_
            change gW _ _ _ _ (.int q19 :: _) _ _ _ _ _
            refine r_iload (pc := 71) dX9_moveBlock_71 rfl ?_
            refine r_iload_n (pc := 73) dX9_moveBlock_73 rfl ?_
            refine r_icmp_ne (pc := 74) 82 dX9_moveBlock_74 (by decide) (fun hc => ?_) (fun hc => ?_)
            · rw [if_pos hc] at hf
              refine r_iconst (pc := 82) (0 : Int32) dX9_moveBlock_82 (by decide) ?_
              refine gW.mono (mc := 8) (ms := 1602) ?_ (fun _ _ _ q => q) (by decide) (by decide)
              exact gW.weak (by simp [gle]) (W_X9_moveBlock_83 q15 a0 a1 a2 a4 a5 ((a3 - a2) + (1 : Int32)) a0 a5 q19 (0 : Int32) r hf hk)
            · rw [if_neg hc] at hf
              refine r_iload (pc := 77) dX9_moveBlock_77 rfl ?_
              refine r_goto (pc := 79) 83 dX9_moveBlock_79 (by decide) ?_
              refine gW.mono (mc := 8) (ms := 1602) ?_ (fun _ _ _ q => q) (by decide) (by decide)
              exact gW.weak (by simp [gle]) (W_X9_moveBlock_83 q15 a0 a1 a2 a4 a5 ((a3 - a2) + (1 : Int32)) a0 a5 q19 ((a3 - a2) + (1 : Int32)) r hf hk)
          · rw [if_neg hc] at hf
            refine r_throw (pc := 42) "java/lang/IndexOutOfBoundsException" 16 dX9_moveBlock_42 dX9_moveBlock_45 dX9_moveBlock_46 dX9_moveBlock_48 dX9_moveBlock_51 xX9_206_210 rfl ⟨by decide, Nat.le_of_ble_eq_true rfl⟩ (by decide) (by decide) ?_
            cases hf
            exact hk
        · replace hf := hf
          refine q_callVt (pc := 34) (E := q15.1) (S' := q15.2) mX9_needIndex 9 [.int a3, .int q13] dX9_moveBlock_34 kX9_189 fX9_needIndex iX9_needIndex ⟨by decide, by decide⟩ rfl rfl rfl (Nat.le_of_ble_eq_true rfl) (og e16) (mc1 := 1) (ms1 := 6) (by decide) (by decide) (C_X9_needIndex q9 a0 a3 q13 (.inr q15) e16 (qX_mk _ _)) ?_
          cases hf
          exact hk
      · replace hf := hf
        refine q_callVt (pc := 21) (E := q9.1) (S' := q9.2) mX9_needIndex 9 [.int a2, .int q7] dX9_moveBlock_21 kX9_189 fX9_needIndex iX9_needIndex ⟨by decide, by decide⟩ rfl rfl rfl (Nat.le_of_ble_eq_true rfl) (og e10) (mc1 := 1) (ms1 := 6) (by decide) (by decide) (C_X9_needIndex q3 a0 a2 q7 (.inr q9) e10 (qX_mk _ _)) ?_
        cases hf
        exact hk
    · replace hf := hf
      refine q_callVt (pc := 8) (E := q3.1) (S' := q3.2) mX9_needItem 9 [.int a4] dX9_moveBlock_8 kX9_137 fX9_needItem iX9_needItem ⟨by decide, by decide⟩ rfl rfl rfl (Nat.le_of_ble_eq_true rfl) (og e4) (mc1 := 1) (ms1 := 6) (by decide) (by decide) (C_X9_needItem q1 a0 a4 (.inr q3) e4 (qX_mk _ _)) ?_
      cases hf
      exact hk
  · replace hf := hf
    refine q_callVt (pc := 2) (E := q1.1) (S' := q1.2) mX9_needItem 9 [.int a1] dX9_moveBlock_2 kX9_137 fX9_needItem iX9_needItem ⟨by decide, by decide⟩ rfl rfl rfl (Nat.le_of_ble_eq_true rfl) (og e2) (mc1 := 1) (ms1 := 6) (by decide) (by decide) (C_X9_needItem S a0 a1 (.inr q1) e2 (qX_mk _ _)) ?_
    cases hf
    exact hk
