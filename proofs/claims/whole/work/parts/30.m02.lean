def F_X8_letterAt (S : pS) (a0 : Nat) (a1 : Int32) (a2 : Int32) : Option (Int32) := (oF S a0 8).bind fun _ => (oGA S a0 8 3).bind fun x1 => (oAI S x1 .char ((a1 * (10 : Int32)) + a2)).bind fun x3 => (oC x3).bind fun x5 => some x5
set_option maxRecDepth 100000 in
set_option maxHeartbeats 4000000 in
theorem C_X8_letterAt {X : pX} {Q : pO → Nat → pF → Prop} (S : pS) (a0 : Nat) (a1 : Int32) (a2 : Int32) (r : Int32) (hf : F_X8_letterAt S a0 a1 a2 = some r) (hk : Q (.inl (some (.int r))) S.1 S.2) : gC X mX8_letterAt [.ref a0, .int a1, .int a2] S.1 S.2 Q 0 0 := by
  refine gC_of (by decide) (Nat.le_of_ble_eq_true rfl) rfl ?_
  change gW _ _ _ [some (.ref a0), some (.int a1), some (.int a2)] _ _ _ _ _ _
  unfold F_X8_letterAt at hf
  obtain ⟨_, _, hf⟩ := obind hf
  refine r_aload_n (pc := 0) dX8_letterAt_0 rfl ?_
  replace hf := obind hf
  obtain ⟨x1, e2, hf⟩ := hf
  refine q_getA (pc := 1) dX8_letterAt_1 gX8_21 e2 ?_
  refine r_iload_n (pc := 4) dX8_letterAt_4 rfl ?_
  refine r_bipush (pc := 5) (10 : Int32) dX8_letterAt_5 (by decide) ?_
  refine r_imul (pc := 7) dX8_letterAt_7 ?_
  refine r_iload_n (pc := 8) dX8_letterAt_8 rfl ?_
  refine r_iadd (pc := 9) dX8_letterAt_9 ?_
  replace hf := obind hf
  obtain ⟨x3, e4, hf⟩ := hf
  refine q_cald (pc := 10) dX8_letterAt_10 e4 ?_
  replace hf := obind hf
  obtain ⟨x5, e6, hf⟩ := hf
  obtain ⟨e6a, e6b⟩ := oC_some e6
  rw [e6a] at hf
  refine r_ireturn (pc := 11) .char dX8_letterAt_11 rfl e6b ?_
  cases hf
  exact hk
abbrev L_X8_nameContains_3 (l0 : Nat) (l1 : Int32) (l2 : Nat) (l3 : Int32) (l4 : Int32) (S : pS) : Int32 → List (Option Value) := fun a => [some (.ref l0), some (.int l1), some (.ref l2), some (.int l3), some (.int l4), some (.int a), none]
abbrev s_X8_nameContains_3 (l0 : Nat) (l1 : Int32) (l2 : Nat) (l3 : Int32) (l4 : Int32) (S : pS) : Int32 → pS := fun a => S
abbrev K_X8_nameContains_3 (X : pX) (Q : pO → Nat → pF → Prop) (mc ms : Nat) (l0 : Nat) (l1 : Int32) (l2 : Nat) (l3 : Int32) (l4 : Int32) (S : pS) : (Unit) ⊕ (Unit) → Prop := (Sum.elim (fun b => gW X mX8_nameContains 59 [some (.ref l0), some (.int l1), some (.ref l2), some (.int l3), some (.int l4), none, none] [] S.1 S.2 Q mc ms) (fun b => gW X mX8_nameContains 67 [some (.ref l0), some (.int l1), some (.ref l2), some (.int l3), some (.int l4), none, none] [] S.1 S.2 Q mc ms))
abbrev L_X8_nameContains_20 (l0 : Nat) (l1 : Int32) (l2 : Nat) (l3 : Int32) (l4 : Int32) (l5 : Int32) (S : pS) : Int32 → List (Option Value) := fun a => [some (.ref l0), some (.int l1), some (.ref l2), some (.int l3), some (.int l4), some (.int l5), some (.int a)]
abbrev s_X8_nameContains_20 (l0 : Nat) (l1 : Int32) (l2 : Nat) (l3 : Int32) (l4 : Int32) (l5 : Int32) (S : pS) : Int32 → pS := fun a => S
abbrev K_X8_nameContains_20 (X : pX) (Q : pO → Nat → pF → Prop) (mc ms : Nat) (l0 : Nat) (l1 : Int32) (l2 : Nat) (l3 : Int32) (l4 : Int32) (l5 : Int32) (S : pS) : Int32 → Prop := (fun b => gW X mX8_nameContains 52 [some (.ref l0), some (.int l1), some (.ref l2), some (.int l3), some (.int l4), some (.int l5), some (.int b)] [] S.1 S.2 Q mc ms)
def F_X8_nameContains_20 (l0 : Nat) (l1 : Int32) (l2 : Nat) (l3 : Int32) (l4 : Int32) (l5 : Int32) (S : pS) : Int32 → Option ((Int32) ⊕ (Int32)) := fun a => if l4 ≤ a then (some (.inr a)) else ((F_X8_letterAt S l0 l1 (l5 + a)).bind fun q5 => (oAI S l2 .char (l3 + a)).bind fun x7 => if ¬ q5 = x7 then (some (.inr a)) else (some (.inl (a + (1 : Int32)))))
set_option maxRecDepth 100000 in
set_option maxHeartbeats 4000000 in
theorem W_X8_nameContains_20 {X : pX} {Q : pO → Nat → pF → Prop} {mc ms : Nat} (l0 : Nat) (l1 : Int32) (l2 : Nat) (l3 : Int32) (l4 : Int32) (l5 : Int32) (S : pS) : ∀ (a : Int32) (r : (Int32) ⊕ (Int32)), F_X8_nameContains_20 l0 l1 l2 l3 l4 l5 S a = some r → Sum.elim (fun a' => gW X mX8_nameContains 20 (L_X8_nameContains_20 l0 l1 l2 l3 l4 l5 S a') [] (s_X8_nameContains_20 l0 l1 l2 l3 l4 l5 S a').1 (s_X8_nameContains_20 l0 l1 l2 l3 l4 l5 S a').2 Q mc ms) (K_X8_nameContains_20 X Q mc ms l0 l1 l2 l3 l4 l5 S) r → gW X mX8_nameContains 20 (L_X8_nameContains_20 l0 l1 l2 l3 l4 l5 S a) [] (s_X8_nameContains_20 l0 l1 l2 l3 l4 l5 S a).1 (s_X8_nameContains_20 l0 l1 l2 l3 l4 l5 S a).2 Q mc ms := by
  intro l6 r hf hk
  unfold F_X8_nameContains_20 at hf
  try dsimp only at hf
  change gW _ _ _ [some (.ref l0), some (.int l1), some (.ref l2), some (.int l3), some (.int l4), some (.int l5), some (.int l6)] _ S.1 S.2 _ _ _
  refine r_iload (pc := 20) dX8_nameContains_20 rfl ?_
  refine r_iload (pc := 22) dX8_nameContains_22 rfl ?_
  refine r_icmp_ge (pc := 24) 52 dX8_nameContains_24 (by decide) (fun hc => ?_) (fun hc => ?_)
  · rw [if_pos hc] at hf
    cases hf
    exact gW.weak (by simp [gle]) hk
  · rw [if_neg hc] at hf
    refine r_aload_n (pc := 27) dX8_nameContains_27 rfl ?_
    refine r_iload_n (pc := 28) dX8_nameContains_28 rfl ?_
    refine r_iload (pc := 29) dX8_nameContains_29 rfl ?_
    refine r_iload (pc := 31) dX8_nameContains_31 rfl ?_
    refine r_iadd (pc := 33) dX8_nameContains_33 ?_
    replace hf := obind hf
    obtain ⟨q5, e6, hf⟩ := hf
    refine q_callV (pc := 34) (v := some (.int q5)) (S' := S) mX8_letterAt 8 [.int l1, .int (l5 + l6)] dX8_nameContains_34 kX8_89 fX8_letterAt iX8_letterAt ⟨by decide, by decide⟩ rfl rfl rfl (Nat.le_of_ble_eq_true rfl) (og e6) (mc1 := 0) (ms1 := 0) (mc2 := mc) (ms2 := ms) (by omega) (by omega) (C_X8_letterAt S l0 l1 (l5 + l6) q5 e6 (qR_mk _ _)) ?_
    change gW _ _ _ _ (.int q5 :: _) _ _ _ _ _
    refine r_aload_n (pc := 37) dX8_nameContains_37 rfl ?_
    refine r_iload_n (pc := 38) dX8_nameContains_38 rfl ?_
    refine r_iload (pc := 39) dX8_nameContains_39 rfl ?_
    refine r_iadd (pc := 41) dX8_nameContains_41 ?_
    replace hf := obind hf
    obtain ⟨x7, e8, hf⟩ := hf
    refine q_cald (pc := 42) dX8_nameContains_42 e8 ?_
    refine r_icmp_ne (pc := 43) 52 dX8_nameContains_43 (by decide) (fun hc => ?_) (fun hc => ?_)
    · rw [if_pos hc] at hf
      cases hf
      exact gW.weak (by simp [gle]) hk
    · rw [if_neg hc] at hf
      refine r_iinc (pc := 46) dX8_nameContains_46 rfl (by decide) ?_
      change gW _ _ _ [some (.ref l0), some (.int l1), some (.ref l2), some (.int l3), some (.int l4), some (.int l5), some (.int (l6 + (1 : Int32)))] _ _ _ _ _ _
      refine r_goto (pc := 49) 20 dX8_nameContains_49 (by decide) ?_
      cases hf
      exact gW.weak (by simp [gle]) hk
def F_X8_nameContains_52 (l0 : Nat) (l1 : Int32) (l2 : Nat) (l3 : Int32) (l4 : Int32) (S : pS) (l5 : Int32) (l6 : Int32) : Option ((Int32) ⊕ ((Unit) ⊕ (Unit))) := if ¬ l6 = l4 then (some (.inl (l5 + (1 : Int32)))) else (some (.inr (.inl ())))
set_option maxRecDepth 100000 in
set_option maxHeartbeats 4000000 in
theorem W_X8_nameContains_52 {X : pX} {Q : pO → Nat → pF → Prop} {mc ms : Nat} (l0 : Nat) (l1 : Int32) (l2 : Nat) (l3 : Int32) (l4 : Int32) (S : pS) (l5 : Int32) (l6 : Int32) (r : (Int32) ⊕ ((Unit) ⊕ (Unit))) (hf : F_X8_nameContains_52 l0 l1 l2 l3 l4 S l5 l6 = some r) (hk : Sum.elim (fun a' => gW X mX8_nameContains 3 (L_X8_nameContains_3 l0 l1 l2 l3 l4 S a') [] (s_X8_nameContains_3 l0 l1 l2 l3 l4 S a').1 (s_X8_nameContains_3 l0 l1 l2 l3 l4 S a').2 Q mc ms) (K_X8_nameContains_3 X Q mc ms l0 l1 l2 l3 l4 S) r) : gW X mX8_nameContains 52 [some (.ref l0), some (.int l1), some (.ref l2), some (.int l3), some (.int l4), some (.int l5), some (.int l6)] [] S.1 S.2 Q mc ms := by
  unfold F_X8_nameContains_52 at hf
  refine r_iload (pc := 52) dX8_nameContains_52 rfl ?_
  refine r_iload (pc := 54) dX8_nameContains_54 rfl ?_
  refine r_icmp_ne (pc := 56) 61 dX8_nameContains_56 (by decide) (fun hc => ?_) (fun hc => ?_)
  · rw [if_pos hc] at hf
    refine r_iinc (pc := 61) dX8_nameContains_61 rfl (by decide) ?_
    change gW _ _ _ [some (.ref l0), some (.int l1), some (.ref l2), some (.int l3), some (.int l4), some (.int (l5 + (1 : Int32))), some (.int l6)] _ _ _ _ _ _
    refine r_goto (pc := 64) 3 dX8_nameContains_64 (by decide) ?_
    cases hf
    exact gW.weak (by simp [gle]) hk
  · rw [if_neg hc] at hf
    cases hf
    exact gW.weak (by simp [gle]) hk
def F_X8_nameContains_3 (l0 : Nat) (l1 : Int32) (l2 : Nat) (l3 : Int32) (l4 : Int32) (S : pS) : Int32 → Option ((Int32) ⊕ ((Unit) ⊕ (Unit))) := fun a => (oGA S l0 8 2).bind fun x1 => (oAI S x1 .int l1).bind fun x3 => if x3 < (a + l4) then (some (.inr (.inr ()))) else ((iter (F_X8_nameContains_20 l0 l1 l2 l3 l4 a S) fu (0 : Int32)).bind fun r9 => F_X8_nameContains_52 l0 l1 l2 l3 l4 S a r9)
set_option maxRecDepth 100000 in
set_option maxHeartbeats 4000000 in
theorem W_X8_nameContains_3 {X : pX} {Q : pO → Nat → pF → Prop} {mc ms : Nat} (l0 : Nat) (l1 : Int32) (l2 : Nat) (l3 : Int32) (l4 : Int32) (S : pS) : ∀ (a : Int32) (r : (Int32) ⊕ ((Unit) ⊕ (Unit))), F_X8_nameContains_3 l0 l1 l2 l3 l4 S a = some r → Sum.elim (fun a' => gW X mX8_nameContains 3 (L_X8_nameContains_3 l0 l1 l2 l3 l4 S a') [] (s_X8_nameContains_3 l0 l1 l2 l3 l4 S a').1 (s_X8_nameContains_3 l0 l1 l2 l3 l4 S a').2 Q mc ms) (K_X8_nameContains_3 X Q mc ms l0 l1 l2 l3 l4 S) r → gW X mX8_nameContains 3 (L_X8_nameContains_3 l0 l1 l2 l3 l4 S a) [] (s_X8_nameContains_3 l0 l1 l2 l3 l4 S a).1 (s_X8_nameContains_3 l0 l1 l2 l3 l4 S a).2 Q mc ms := by
  intro l5 r hf hk
  unfold F_X8_nameContains_3 at hf
  try dsimp only at hf
  change gW _ _ _ [some (.ref l0), some (.int l1), some (.ref l2), some (.int l3), some (.int l4), some (.int l5), none] _ S.1 S.2 _ _ _
  refine r_iload (pc := 3) dX8_nameContains_3 rfl ?_
  refine r_iload (pc := 5) dX8_nameContains_5 rfl ?_
  refine r_iadd (pc := 7) dX8_nameContains_7 ?_
  refine r_aload_n (pc := 8) dX8_nameContains_8 rfl ?_
  replace hf := obind hf
  obtain ⟨x1, e2, hf⟩ := hf
  refine q_getA (pc := 9) dX8_nameContains_9 gX8_18 e2 ?_
  refine r_iload_n (pc := 12) dX8_nameContains_12 rfl ?_
  replace hf := obind hf
  obtain ⟨x3, e4, hf⟩ := hf
  refine q_iald (pc := 13) dX8_nameContains_13 e4 ?_
  refine r_icmp_gt (pc := 14) 67 dX8_nameContains_14 (by decide) (fun hc => ?_) (fun hc => ?_)
  · rw [if_pos hc] at hf
    cases hf
    exact gW.weak (by simp [gle]) hk
  · rw [if_neg hc] at hf
    refine r_iconst (pc := 17) (0 : Int32) dX8_nameContains_17 (by decide) ?_
    refine r_istore (pc := 18) dX8_nameContains_18 (by decide) ?_
    change gW _ _ _ [some (.ref l0), some (.int l1), some (.ref l2), some (.int l3), some (.int l4), some (.int l5), some (.int (0 : Int32))] _ _ _ _ _ _
    replace hf := obind hf
    obtain ⟨r9, e10, hf⟩ := hf
    refine gW.weak (ls' := [some (.ref l0), some (.int l1), some (.ref l2), some (.int l3), some (.int l4), some (.int l5), some (.int (0 : Int32))]) (by simp [gle]) ?_
    refine g_iter (L := L_X8_nameContains_20 l0 l1 l2 l3 l4 l5 S) (s := s_X8_nameContains_20 l0 l1 l2 l3 l4 l5 S) (K := K_X8_nameContains_20 X Q _ _ l0 l1 l2 l3 l4 l5 S) (W_X8_nameContains_20 l0 l1 l2 l3 l4 l5 S) fu (0 : Int32) _ e10 ?_
    show gW _ _ 52 [some (.ref l0), some (.int l1), some (.ref l2), some (.int l3), some (.int l4), some (.int l5), some (.int r9)] [] S.1 S.2 _ _ _
    exact gW.weak (by simp [gle]) (W_X8_nameContains_52 l0 l1 l2 l3 l4 S l5 r9 r hf hk)
def F_X8_nameContains (S : pS) (a0 : Nat) (a1 : Int32) (a2 : Nat) (a3 : Int32) (a4 : Int32) : Option (Int32) := (oF S a0 8).bind fun _ => (iter (F_X8_nameContains_3 a0 a1 a2 a3 a4 S) fu (0 : Int32)).bind fun r11 => Sum.elim (fun q13 => some (1 : Int32)) (fun q13 => some (0 : Int32)) r11
set_option maxRecDepth 100000 in
set_option maxHeartbeats 4000000 in
theorem C_X8_nameContains {X : pX} {Q : pO → Nat → pF → Prop} (S : pS) (a0 : Nat) (a1 : Int32) (a2 : Nat) (a3 : Int32) (a4 : Int32) (r : Int32) (hf : F_X8_nameContains S a0 a1 a2 a3 a4 = some r) (hk : Q (.inl (some (.int r))) S.1 S.2) : gC X mX8_nameContains [.ref a0, .int a1, .ref a2, .int a3, .int a4] S.1 S.2 Q 0 0 := by
  refine gC_of (by decide) (Nat.le_of_ble_eq_true rfl) rfl ?_
  change gW _ _ _ [some (.ref a0), some (.int a1), some (.ref a2), some (.int a3), some (.int a4), none, none] _ _ _ _ _ _
  unfold F_X8_nameContains at hf
  obtain ⟨_, _, hf⟩ := obind hf
  refine r_iconst (pc := 0) (0 : Int32) dX8_nameContains_0 (by decide) ?_
  refine r_istore (pc := 1) dX8_nameContains_1 (by decide) ?_
  change gW _ _ _ [some (.ref a0), some (.int a1), some (.ref a2), some (.int a3), some (.int a4), some (.int (0 : Int32)), none] _ _ _ _ _ _
  replace hf := obind hf
  obtain ⟨r11, e12, hf⟩ := hf
  refine gW.weak (ls' := [some (.ref a0), some (.int a1), some (.ref a2), some (.int a3), some (.int a4), some (.int (0 : Int32)), none]) (by simp [gle]) ?_
  refine g_iter (L := L_X8_nameContains_3 a0 a1 a2 a3 a4 S) (s := s_X8_nameContains_3 a0 a1 a2 a3 a4 S) (K := K_X8_nameContains_3 X Q _ _ a0 a1 a2 a3 a4 S) (W_X8_nameContains_3 a0 a1 a2 a3 a4 S) fu (0 : Int32) _ e12 ?_
  rcases r11 with q13 | q13
  · simp only [Sum.elim_inl, Sum.elim_inr] at hf
    show gW _ _ 59 [some (.ref a0), some (.int a1), some (.ref a2), some (.int a3), some (.int a4), none, none] [] S.1 S.2 _ _ _
    refine r_iconst (pc := 59) (1 : Int32) dX8_nameContains_59 (by decide) ?_
    refine r_ireturn (pc := 60) .boolean dX8_nameContains_60 rfl rfl ?_
    cases hf
    exact hk
  · simp only [Sum.elim_inl, Sum.elim_inr] at hf
    show gW _ _ 67 [some (.ref a0), some (.int a1), some (.ref a2), some (.int a3), some (.int a4), none, none] [] S.1 S.2 _ _ _
    refine r_iconst (pc := 67) (0 : Int32) dX8_nameContains_67 (by decide) ?_
    refine r_ireturn (pc := 68) .boolean dX8_nameContains_68 rfl rfl ?_
    cases hf
    exact hk
abbrev L_X1_itemsWithLetters_5 (l0 : Nat) (l1 : Nat) (l2 : Int32) (S : pS) : Int64 × Int32 → List (Option Value) := fun a => [some (.ref l0), some (.ref l1), some (.int l2), some (.long a.1), none, some (.int a.2)]
abbrev s_X1_itemsWithLetters_5 (l0 : Nat) (l1 : Nat) (l2 : Int32) (S : pS) : Int64 × Int32 → pS := fun a => S
abbrev K_X1_itemsWithLetters_5 (X : pX) (Q : pO → Nat → pF → Prop) (mc ms : Nat) (l0 : Nat) (l1 : Nat) (l2 : Int32) (S : pS) : Int64 → Prop := (fun b => gW X mX1_itemsWithLetters 62 [some (.ref l0), some (.ref l1), some (.int l2), some (.long b), none, none] [] S.1 S.2 Q mc ms)
def F_X1_itemsWithLetters_52 (l0 : Nat) (l1 : Nat) (l2 : Int32) (S : pS) (l5 : Int32) (t0 : Int64) (t1 : Int32) (t2 : Int32) : Option ((Int64 × Int32) ⊕ (Int64)) := (F_X9_with S t0 t1 t2).bind fun q3 => some (.inl (q3, l5 + (1 : Int32)))
set_option maxRecDepth 100000 in
set_option maxHeartbeats 4000000 in
theorem W_X1_itemsWithLetters_52 {X : pX} {Q : pO → Nat → pF → Prop} {mc ms : Nat} (l0 : Nat) (l1 : Nat) (l2 : Int32) (S : pS) (l5 : Int32) (t0 : Int64) (t1 : Int32) (t2 : Int32) (r : (Int64 × Int32) ⊕ (Int64)) (hf : F_X1_itemsWithLetters_52 l0 l1 l2 S l5 t0 t1 t2 = some r) (hk : Sum.elim (fun a' => gW X mX1_itemsWithLetters 5 (L_X1_itemsWithLetters_5 l0 l1 l2 S a') [] (s_X1_itemsWithLetters_5 l0 l1 l2 S a').1 (s_X1_itemsWithLetters_5 l0 l1 l2 S a').2 Q mc ms) (K_X1_itemsWithLetters_5 X Q mc ms l0 l1 l2 S) r) : gW X mX1_itemsWithLetters 52 [some (.ref l0), some (.ref l1), some (.int l2), none, none, some (.int l5)] [.int t2, .int t1, .long t0] S.1 S.2 Q mc ms := by
  unfold F_X1_itemsWithLetters_52 at hf
  replace hf := obind hf
  obtain ⟨q3, e4, hf⟩ := hf
  refine q_callSN (pc := 52) (v := some (.long q3)) (S' := S) mX9_with [.long t0, .int t1, .int t2] dX1_itemsWithLetters_52 kX1_128 fX9_with sX9_with ⟨by decide, by decide⟩ rfl rfl (Nat.le_of_ble_eq_true rfl) (mc1 := 0) (ms1 := 0) (mc2 := mc) (ms2 := ms) (by omega) (by omega) (C_X9_with S t0 t1 t2 q3 e4 (qR_mk _ _)) ?_
  change gW _ _ _ _ (.long q3 :: _) _ _ _ _ _
  refine r_lstore_n (pc := 55) dX1_itemsWithLetters_55 (by decide) ?_
  change gW _ _ _ [some (.ref l0), some (.ref l1), some (.int l2), some (.long q3), none, some (.int l5)] _ _ _ _ _ _
  refine r_iinc (pc := 56) dX1_itemsWithLetters_56 rfl (by decide) ?_
  change gW _ _ _ [some (.ref l0), some (.ref l1), some (.int l2), some (.long q3), none, some (.int (l5 + (1 : Int32)))] _ _ _ _ _ _
  refine r_goto (pc := 59) 5 dX1_itemsWithLetters_59 (by decide) ?_
  cases hf
  exact gW.weak (by simp [gle]) hk
def F_X1_itemsWithLetters_51 (l0 : Nat) (l1 : Nat) (l2 : Int32) (S : pS) (l5 : Int32) (t0 : Int64) (t1 : Int32) : Option ((Int64 × Int32) ⊕ (Int64)) := F_X1_itemsWithLetters_52 l0 l1 l2 S l5 t0 t1 (0 : Int32)
set_option maxRecDepth 100000 in
set_option maxHeartbeats 4000000 in
theorem W_X1_itemsWithLetters_51 {X : pX} {Q : pO → Nat → pF → Prop} {mc ms : Nat} (l0 : Nat) (l1 : Nat) (l2 : Int32) (S : pS) (l5 : Int32) (t0 : Int64) (t1 : Int32) (r : (Int64 × Int32) ⊕ (Int64)) (hf : F_X1_itemsWithLetters_51 l0 l1 l2 S l5 t0 t1 = some r) (hk : Sum.elim (fun a' => gW X mX1_itemsWithLetters 5 (L_X1_itemsWithLetters_5 l0 l1 l2 S a') [] (s_X1_itemsWithLetters_5 l0 l1 l2 S a').1 (s_X1_itemsWithLetters_5 l0 l1 l2 S a').2 Q mc ms) (K_X1_itemsWithLetters_5 X Q mc ms l0 l1 l2 S) r) : gW X mX1_itemsWithLetters 51 [some (.ref l0), some (.ref l1), some (.int l2), none, none, some (.int l5)] [.int t1, .long t0] S.1 S.2 Q mc ms := by
  unfold F_X1_itemsWithLetters_51 at hf
  refine r_iconst (pc := 51) (0 : Int32) dX1_itemsWithLetters_51 (by decide) ?_
  exact gW.weak (by simp [gle]) (W_X1_itemsWithLetters_52 l0 l1 l2 S l5 t0 t1 (0 : Int32) r hf hk)
def F_X1_itemsWithLetters_5 (l0 : Nat) (l1 : Nat) (l2 : Int32) (S : pS) : Int64 × Int32 → Option ((Int64 × Int32) ⊕ (Int64)) := fun a => if (61 : Int32) ≤ a.2 then (some (.inr a.1)) else ((F_X8_holds S l1 a.2).bind fun q1 => if q1 = 0 then (F_X1_itemsWithLetters_51 l0 l1 l2 S a.2 a.1 a.2) else ((oGA S l0 1 3).bind fun x5 => (oGA S l0 1 4).bind fun x7 => (oAI S x7 .int l2).bind fun x9 => (F_X8_nameContains S l1 a.2 x5 (l2 * (10 : Int32)) x9).bind fun q11 => if q11 = 0 then (F_X1_itemsWithLetters_51 l0 l1 l2 S a.2 a.1 a.2) else (F_X1_itemsWithLetters_52 l0 l1 l2 S a.2 a.1 a.2 (1 : Int32))))
set_option maxRecDepth 100000 in
set_option maxHeartbeats 4000000 in
theorem W_X1_itemsWithLetters_5 {X : pX} {Q : pO → Nat → pF → Prop} {mc ms : Nat} (l0 : Nat) (l1 : Nat) (l2 : Int32) (S : pS) : ∀ (a : Int64 × Int32) (r : (Int64 × Int32) ⊕ (Int64)), F_X1_itemsWithLetters_5 l0 l1 l2 S a = some r → Sum.elim (fun a' => gW X mX1_itemsWithLetters 5 (L_X1_itemsWithLetters_5 l0 l1 l2 S a') [] (s_X1_itemsWithLetters_5 l0 l1 l2 S a').1 (s_X1_itemsWithLetters_5 l0 l1 l2 S a').2 Q mc ms) (K_X1_itemsWithLetters_5 X Q mc ms l0 l1 l2 S) r → gW X mX1_itemsWithLetters 5 (L_X1_itemsWithLetters_5 l0 l1 l2 S a) [] (s_X1_itemsWithLetters_5 l0 l1 l2 S a).1 (s_X1_itemsWithLetters_5 l0 l1 l2 S a).2 Q mc ms := by
  intro a r hf hk
  obtain ⟨l3, l5⟩ := a
  unfold F_X1_itemsWithLetters_5 at hf
  try dsimp only at hf
  change gW _ _ _ [some (.ref l0), some (.ref l1), some (.int l2), some (.long l3), none, some (.int l5)] _ S.1 S.2 _ _ _
  refine r_iload (pc := 5) dX1_itemsWithLetters_5 rfl ?_
  refine r_bipush (pc := 7) (61 : Int32) dX1_itemsWithLetters_7 (by decide) ?_
  refine r_icmp_ge (pc := 9) 62 dX1_itemsWithLetters_9 (by decide) (fun hc => ?_) (fun hc => ?_)
  · rw [if_pos hc] at hf
    cases hf
    exact gW.weak (by simp [gle]) hk
  · rw [if_neg hc] at hf
    refine r_lload_n (pc := 12) dX1_itemsWithLetters_12 rfl ?_
    refine r_iload (pc := 13) dX1_itemsWithLetters_13 rfl ?_
    refine r_aload_n (pc := 15) dX1_itemsWithLetters_15 rfl ?_
    refine r_iload (pc := 16) dX1_itemsWithLetters_16 rfl ?_
    replace hf := obind hf
    obtain ⟨q1, e2, hf⟩ := hf
    refine q_callV (pc := 18) (v := some (.int q1)) (S' := S) mX8_holds 8 [.int l5] dX1_itemsWithLetters_18 kX1_120 fX8_holds iX8_holds ⟨by decide, by decide⟩ rfl rfl rfl (Nat.le_of_ble_eq_true rfl) (og e2) (mc1 := 0) (ms1 := 0) (mc2 := mc) (ms2 := ms) (by omega) (by omega) (C_X8_holds S l1 l5 q1 e2 (qR_mk _ _)) ?_
    change gW _ _ _ _ (.int q1 :: _) _ _ _ _ _
    refine r_if_eq (pc := 21) 51 dX1_itemsWithLetters_21 (by decide) (fun hc => ?_) (fun hc => ?_)
    · rw [if_pos hc] at hf
      exact gW.weak (by simp [gle]) (W_X1_itemsWithLetters_51 l0 l1 l2 S l5 l3 l5 r hf hk)
    · rw [if_neg hc] at hf
      refine r_aload_n (pc := 24) dX1_itemsWithLetters_24 rfl ?_
      refine r_iload (pc := 25) dX1_itemsWithLetters_25 rfl ?_
      refine r_aload_n (pc := 27) dX1_itemsWithLetters_27 rfl ?_
      replace hf := obind hf
      obtain ⟨x5, e6, hf⟩ := hf
      refine q_getA (pc := 28) dX1_itemsWithLetters_28 gX1_22 e6 ?_
      refine r_iload_n (pc := 31) dX1_itemsWithLetters_31 rfl ?_
      refine r_bipush (pc := 32) (10 : Int32) dX1_itemsWithLetters_32 (by decide) ?_
      refine r_imul (pc := 34) dX1_itemsWithLetters_34 ?_
      refine r_aload_n (pc := 35) dX1_itemsWithLetters_35 rfl ?_
      replace hf := obind hf
      obtain ⟨x7, e8, hf⟩ := hf
      refine q_getA (pc := 36) dX1_itemsWithLetters_36 gX1_26 e8 ?_
      refine r_iload_n (pc := 39) dX1_itemsWithLetters_39 rfl ?_
      replace hf := obind hf
      obtain ⟨x9, e10, hf⟩ := hf
      refine q_iald (pc := 40) dX1_itemsWithLetters_40 e10 ?_
      replace hf := obind hf
      obtain ⟨q11, e12, hf⟩ := hf
      refine q_callV (pc := 41) (v := some (.int q11)) (S' := S) mX8_nameContains 8 [.int l5, .ref x5, .int (l2 * (10 : Int32)), .int x9] dX1_itemsWithLetters_41 kX1_124 fX8_nameContains iX8_nameContains ⟨by decide, by decide⟩ rfl rfl rfl (Nat.le_of_ble_eq_true rfl) (og e12) (mc1 := 0) (ms1 := 0) (mc2 := mc) (ms2 := ms) (by omega) (by omega) (C_X8_nameContains S l1 l5 x5 (l2 * (10 : Int32)) x9 q11 e12 (qR_mk _ _)) ?_
      change gW _ _ _ _ (.int q11 :: _) _ _ _ _ _
      refine r_if_eq (pc := 44) 51 dX1_itemsWithLetters_44 (by decide) (fun hc => ?_) (fun hc => ?_)
      · rw [if_pos hc] at hf
        exact gW.weak (by simp [gle]) (W_X1_itemsWithLetters_51 l0 l1 l2 S l5 l3 l5 r hf hk)
      · rw [if_neg hc] at hf
        refine r_iconst (pc := 47) (1 : Int32) dX1_itemsWithLetters_47 (by decide) ?_
        refine r_goto (pc := 48) 52 dX1_itemsWithLetters_48 (by decide) ?_
        exact gW.weak (by simp [gle]) (W_X1_itemsWithLetters_52 l0 l1 l2 S l5 l3 l5 (1 : Int32) r hf hk)
def F_X1_itemsWithLetters (S : pS) (a0 : Nat) (a1 : Nat) (a2 : Int32) : Option (Int64) := (oF S a0 1).bind fun _ => (iter (F_X1_itemsWithLetters_5 a0 a1 a2 S) fu ((0 : Int64), (1 : Int32))).bind fun r13 => some r13
set_option maxRecDepth 100000 in
set_option maxHeartbeats 4000000 in
theorem C_X1_itemsWithLetters {X : pX} {Q : pO → Nat → pF → Prop} (S : pS) (a0 : Nat) (a1 : Nat) (a2 : Int32) (r : Int64) (hf : F_X1_itemsWithLetters S a0 a1 a2 = some r) (hk : Q (.inl (some (.long r))) S.1 S.2) : gC X mX1_itemsWithLetters [.ref a0, .ref a1, .int a2] S.1 S.2 Q 0 0 := by
  refine gC_of (by decide) (Nat.le_of_ble_eq_true rfl) rfl ?_
  change gW _ _ _ [some (.ref a0), some (.ref a1), some (.int a2), none, none, none] _ _ _ _ _ _
  unfold F_X1_itemsWithLetters at hf
  obtain ⟨_, _, hf⟩ := obind hf
  refine r_lconst (pc := 0) (0 : Int64) dX1_itemsWithLetters_0 (by decide) ?_
  refine r_lstore_n (pc := 1) dX1_itemsWithLetters_1 (by decide) ?_
  change gW _ _ _ [some (.ref a0), some (.ref a1), some (.int a2), some (.long (0 : Int64)), none, none] _ _ _ _ _ _
  refine r_iconst (pc := 2) (1 : Int32) dX1_itemsWithLetters_2 (by decide) ?_
  refine r_istore (pc := 3) dX1_itemsWithLetters_3 (by decide) ?_
  change gW _ _ _ [some (.ref a0), some (.ref a1), some (.int a2), some (.long (0 : Int64)), none, some (.int (1 : Int32))] _ _ _ _ _ _
  replace hf := obind hf
  obtain ⟨r13, e14, hf⟩ := hf
  refine gW.weak (ls' := [some (.ref a0), some (.ref a1), some (.int a2), some (.long (0 : Int64)), none, some (.int (1 : Int32))]) (by simp [gle]) ?_
  refine g_iter (L := L_X1_itemsWithLetters_5 a0 a1 a2 S) (s := s_X1_itemsWithLetters_5 a0 a1 a2 S) (K := K_X1_itemsWithLetters_5 X Q _ _ a0 a1 a2 S) (W_X1_itemsWithLetters_5 a0 a1 a2 S) fu ((0 : Int64), (1 : Int32)) _ e14 ?_
  show gW _ _ 62 [some (.ref a0), some (.ref a1), some (.int a2), some (.long r13), none, none] [] S.1 S.2 _ _ _
  refine r_lload_n (pc := 62) dX1_itemsWithLetters_62 rfl ?_
  refine r_lreturn (pc := 63) dX1_itemsWithLetters_63 rfl ?_
  cases hf
  exact hk
def F_X6_familyOf (S : pS) (a0 : Nat) (a1 : Int32) : Option (Int64) := (oF S a0 6).bind fun _ => (oGA S a0 6 7).bind fun x1 => (oAJ S x1 .long a1).bind fun x3 => some x3
set_option maxRecDepth 100000 in
set_option maxHeartbeats 4000000 in
theorem C_X6_familyOf {X : pX} {Q : pO → Nat → pF → Prop} (S : pS) (a0 : Nat) (a1 : Int32) (r : Int64) (hf : F_X6_familyOf S a0 a1 = some r) (hk : Q (.inl (some (.long r))) S.1 S.2) : gC X mX6_familyOf [.ref a0, .int a1] S.1 S.2 Q 0 0 := by
  refine gC_of (by decide) (Nat.le_of_ble_eq_true rfl) rfl ?_
  change gW _ _ _ [some (.ref a0), some (.int a1)] _ _ _ _ _ _
  unfold F_X6_familyOf at hf
  obtain ⟨_, _, hf⟩ := obind hf
  refine r_aload_n (pc := 0) dX6_familyOf_0 rfl ?_
  replace hf := obind hf
  obtain ⟨x1, e2, hf⟩ := hf
  refine q_getA (pc := 1) dX6_familyOf_1 gX6_34 e2 ?_
  refine r_iload_n (pc := 4) dX6_familyOf_4 rfl ?_
  replace hf := obind hf
  obtain ⟨x3, e4, hf⟩ := hf
  refine q_lald (pc := 5) dX6_familyOf_5 e4 ?_
  refine r_lreturn (pc := 6) dX6_familyOf_6 rfl ?_
  cases hf
  exact hk
abbrev L_X8_sumOf_5 (l0 : Nat) (l1 : Int64) (S : pS) : Int32 × Int32 → List (Option Value) := fun a => [some (.ref l0), some (.long l1), none, some (.int a.1), some (.int a.2)]
abbrev s_X8_sumOf_5 (l0 : Nat) (l1 : Int64) (S : pS) : Int32 × Int32 → pS := fun a => S
abbrev K_X8_sumOf_5 (X : pX) (Q : pO → Nat → pF → Prop) (mc ms : Nat) (l0 : Nat) (l1 : Int64) (S : pS) : Int32 → Prop := (fun b => gW X mX8_sumOf 37 [some (.ref l0), some (.long l1), none, some (.int b), none] [] S.1 S.2 Q mc ms)
def F_X8_sumOf_5 (l0 : Nat) (l1 : Int64) (S : pS) : Int32 × Int32 → Option ((Int32 × Int32) ⊕ (Int32)) := fun a => if (61 : Int32) ≤ a.2 then (some (.inr a.1)) else ((F_X9_contains S l1 a.2).bind fun q1 => if q1 = 0 then (some (.inl (a.1, a.2 + (1 : Int32)))) else ((oGA S l0 8 4).bind fun x3 => (oAI S x3 .int a.2).bind fun x5 => some (.inl (a.1 + x5, a.2 + (1 : Int32)))))
set_option maxRecDepth 100000 in
set_option maxHeartbeats 4000000 in
theorem W_X8_sumOf_5 {X : pX} {Q : pO → Nat → pF → Prop} {mc ms : Nat} (l0 : Nat) (l1 : Int64) (S : pS) : ∀ (a : Int32 × Int32) (r : (Int32 × Int32) ⊕ (Int32)), F_X8_sumOf_5 l0 l1 S a = some r → Sum.elim (fun a' => gW X mX8_sumOf 5 (L_X8_sumOf_5 l0 l1 S a') [] (s_X8_sumOf_5 l0 l1 S a').1 (s_X8_sumOf_5 l0 l1 S a').2 Q mc ms) (K_X8_sumOf_5 X Q mc ms l0 l1 S) r → gW X mX8_sumOf 5 (L_X8_sumOf_5 l0 l1 S a) [] (s_X8_sumOf_5 l0 l1 S a).1 (s_X8_sumOf_5 l0 l1 S a).2 Q mc ms := by
  intro a r hf hk
  obtain ⟨l3, l4⟩ := a
  unfold F_X8_sumOf_5 at hf
  try dsimp only at hf
  change gW _ _ _ [some (.ref l0), some (.long l1), none, some (.int l3), some (.int l4)] _ S.1 S.2 _ _ _
  refine r_iload (pc := 5) dX8_sumOf_5 rfl ?_
  refine r_bipush (pc := 7) (61 : Int32) dX8_sumOf_7 (by decide) ?_
  refine r_icmp_ge (pc := 9) 37 dX8_sumOf_9 (by decide) (fun hc => ?_) (fun hc => ?_)
  · rw [if_pos hc] at hf
    cases hf
    exact gW.weak (by simp [gle]) hk
  · rw [if_neg hc] at hf
    refine r_lload_n (pc := 12) dX8_sumOf_12 rfl ?_
    refine r_iload (pc := 13) dX8_sumOf_13 rfl ?_
    replace hf := obind hf
    obtain ⟨q1, e2, hf⟩ := hf
    refine q_callSN (pc := 15) (v := some (.int q1)) (S' := S) mX9_contains [.long l1, .int l4] dX8_sumOf_15 kX8_51 fX9_contains sX9_contains ⟨by decide, by decide⟩ rfl rfl (Nat.le_of_ble_eq_true rfl) (mc1 := 0) (ms1 := 0) (mc2 := mc) (ms2 := ms) (by omega) (by omega) (C_X9_contains S l1 l4 q1 e2 (qR_mk _ _)) ?_
    change gW _ _ _ _ (.int q1 :: _) _ _ _ _ _
    refine r_if_eq (pc := 18) 31 dX8_sumOf_18 (by decide) (fun hc => ?_) (fun hc => ?_)
    · rw [if_pos hc] at hf
      refine r_iinc (pc := 31) dX8_sumOf_31 rfl (by decide) ?_
      change gW _ _ _ [some (.ref l0), some (.long l1), none, some (.int l3), some (.int (l4 + (1 : Int32)))] _ _ _ _ _ _
      refine r_goto (pc := 34) 5 dX8_sumOf_34 (by decide) ?_
      cases hf
      exact gW.weak (by simp [gle]) hk
    · rw [if_neg hc] at hf
      refine r_iload_n (pc := 21) dX8_sumOf_21 rfl ?_
      refine r_aload_n (pc := 22) dX8_sumOf_22 rfl ?_
      replace hf := obind hf
      obtain ⟨x3, e4, hf⟩ := hf
      refine q_getA (pc := 23) dX8_sumOf_23 gX8_25 e4 ?_
      refine r_iload (pc := 26) dX8_sumOf_26 rfl ?_
      replace hf := obind hf
      obtain ⟨x5, e6, hf⟩ := hf
      refine q_iald (pc := 28) dX8_sumOf_28 e6 ?_
      refine r_iadd (pc := 29) dX8_sumOf_29 ?_
      refine r_istore_n (pc := 30) dX8_sumOf_30 (by decide) ?_
      change gW _ _ _ [some (.ref l0), some (.long l1), none, some (.int (l3 + x5)), some (.int l4)] _ _ _ _ _ _
      refine r_iinc (pc := 31) dX8_sumOf_31 rfl (by decide) ?_
      change gW _ _ _ [some (.ref l0), some (.long l1), none, some (.int (l3 + x5)), some (.int (l4 + (1 : Int32)))] _ _ _ _ _ _
      refine r_goto (pc := 34) 5 dX8_sumOf_34 (by decide) ?_
      cases hf
      exact gW.weak (by simp [gle]) hk
def F_X8_sumOf (S : pS) (a0 : Nat) (a1 : Int64) : Option (Int32) := (oF S a0 8).bind fun _ => (iter (F_X8_sumOf_5 a0 a1 S) fu ((0 : Int32), (0 : Int32))).bind fun r7 => some r7
set_option maxRecDepth 100000 in
set_option maxHeartbeats 4000000 in
theorem C_X8_sumOf {X : pX} {Q : pO → Nat → pF → Prop} (S : pS) (a0 : Nat) (a1 : Int64) (r : Int32) (hf : F_X8_sumOf S a0 a1 = some r) (hk : Q (.inl (some (.int r))) S.1 S.2) : gC X mX8_sumOf [.ref a0, .long a1] S.1 S.2 Q 0 0 := by
  refine gC_of (by decide) (Nat.le_of_ble_eq_true rfl) rfl ?_
  change gW _ _ _ [some (.ref a0), some (.long a1), none, none, none] _ _ _ _ _ _
  unfold F_X8_sumOf at hf
  obtain ⟨_, _, hf⟩ := obind hf
  refine r_iconst (pc := 0) (0 : Int32) dX8_sumOf_0 (by decide) ?_
  refine r_istore_n (pc := 1) dX8_sumOf_1 (by decide) ?_
  change gW _ _ _ [some (.ref a0), some (.long a1), none, some (.int (0 : Int32)), none] _ _ _ _ _ _
  refine r_iconst (pc := 2) (0 : Int32) dX8_sumOf_2 (by decide) ?_
  refine r_istore (pc := 3) dX8_sumOf_3 (by decide) ?_
  change gW _ _ _ [some (.ref a0), some (.long a1), none, some (.int (0 : Int32)), some (.int (0 : Int32))] _ _ _ _ _ _
  replace hf := obind hf
  obtain ⟨r7, e8, hf⟩ := hf
  refine gW.weak (ls' := [some (.ref a0), some (.long a1), none, some (.int (0 : Int32)), some (.int (0 : Int32))]) (by simp [gle]) ?_
  refine g_iter (L := L_X8_sumOf_5 a0 a1 S) (s := s_X8_sumOf_5 a0 a1 S) (K := K_X8_sumOf_5 X Q _ _ a0 a1 S) (W_X8_sumOf_5 a0 a1 S) fu ((0 : Int32), (0 : Int32)) _ e8 ?_
  show gW _ _ 37 [some (.ref a0), some (.long a1), none, some (.int r7), none] [] S.1 S.2 _ _ _
  refine r_iload_n (pc := 37) dX8_sumOf_37 rfl ?_
  refine r_ireturn (pc := 38) .int dX8_sumOf_38 rfl rfl ?_
  cases hf
  exact hk
abbrev L_X1_itemsWithinBound_6 (l0 : Nat) (l1 : Nat) (l2 : Nat) (l3 : Int32) (S : pS) : Int64 × Int32 → List (Option Value) := fun a => [some (.ref l0), some (.ref l1), some (.ref l2), some (.int l3), some (.long a.1), none, some (.int a.2), none]
abbrev s_X1_itemsWithinBound_6 (l0 : Nat) (l1 : Nat) (l2 : Nat) (l3 : Int32) (S : pS) : Int64 × Int32 → pS := fun a => S
abbrev K_X1_itemsWithinBound_6 (X : pX) (Q : pO → Nat → pF → Prop) (mc ms : Nat) (l0 : Nat) (l1 : Nat) (l2 : Nat) (l3 : Int32) (S : pS) : Int64 → Prop := (fun b => gW X mX1_itemsWithinBound 98 [some (.ref l0), some (.ref l1), some (.ref l2), some (.int l3), some (.long b), none, none, none] [] S.1 S.2 Q mc ms)
def F_X1_itemsWithinBound_87 (l0 : Nat) (l1 : Nat) (l2 : Nat) (l3 : Int32) (S : pS) (l6 : Int32) (t0 : Int64) (t1 : Int32) (t2 : Int32) : Option ((Int64 × Int32) ⊕ (Int64)) := (F_X9_with S t0 t1 t2).bind fun q11 => some (.inl (q11, l6 + (1 : Int32)))
set_option maxRecDepth 100000 in
set_option maxHeartbeats 4000000 in
theorem W_X1_itemsWithinBound_87 {X : pX} {Q : pO → Nat → pF → Prop} {mc ms : Nat} (l0 : Nat) (l1 : Nat) (l2 : Nat) (l3 : Int32) (S : pS) (l6 : Int32) (t0 : Int64) (t1 : Int32) (t2 : Int32) (r : (Int64 × Int32) ⊕ (Int64)) (hf : F_X1_itemsWithinBound_87 l0 l1 l2 l3 S l6 t0 t1 t2 = some r) (hk : Sum.elim (fun a' => gW X mX1_itemsWithinBound 6 (L_X1_itemsWithinBound_6 l0 l1 l2 l3 S a') [] (s_X1_itemsWithinBound_6 l0 l1 l2 l3 S a').1 (s_X1_itemsWithinBound_6 l0 l1 l2 l3 S a').2 Q mc ms) (K_X1_itemsWithinBound_6 X Q mc ms l0 l1 l2 l3 S) r) : gW X mX1_itemsWithinBound 87 [some (.ref l0), some (.ref l1), some (.ref l2), some (.int l3), none, none, some (.int l6), none] [.int t2, .int t1, .long t0] S.1 S.2 Q mc ms := by
  unfold F_X1_itemsWithinBound_87 at hf
  replace hf := obind hf
  obtain ⟨q11, e12, hf⟩ := hf
  refine q_callSN (pc := 87) (v := some (.long q11)) (S' := S) mX9_with [.long t0, .int t1, .int t2] dX1_itemsWithinBound_87 kX1_128 fX9_with sX9_with ⟨by decide, by decide⟩ rfl rfl (Nat.le_of_ble_eq_true rfl) (mc1 := 0) (ms1 := 0) (mc2 := mc) (ms2 := ms) (by omega) (by omega) (C_X9_with S t0 t1 t2 q11 e12 (qR_mk _ _)) ?_
  change gW _ _ _ _ (.long q11 :: _) _ _ _ _ _
  refine r_lstore (pc := 90) dX1_itemsWithinBound_90 (by decide) ?_
  change gW _ _ _ [some (.ref l0), some (.ref l1), some (.ref l2), some (.int l3), some (.long q11), none, some (.int l6), none] _ _ _ _ _ _
  refine r_iinc (pc := 92) dX1_itemsWithinBound_92 rfl (by decide) ?_
  change gW _ _ _ [some (.ref l0), some (.ref l1), some (.ref l2), some (.int l3), some (.long q11), none, some (.int (l6 + (1 : Int32))), none] _ _ _ _ _ _
  refine r_goto (pc := 95) 6 dX1_itemsWithinBound_95 (by decide) ?_
  cases hf
  exact gW.weak (by simp [gle]) hk
def F_X1_itemsWithinBound_36 (l0 : Nat) (l1 : Nat) (l2 : Nat) (l3 : Int32) (S : pS) (l4 : Int64) (l6 : Int32) (t0 : Int32) : Option ((Int64 × Int32) ⊕ (Int64)) := (oGA S l0 1 0).bind fun x3 => (oAI S x3 .int l3).bind fun x5 => if ¬ x5 = (4 : Int32) then ((oGA S l0 1 2).bind fun x7 => (oAI S x7 .int l3).bind fun x9 => if x9 ≤ t0 then (F_X1_itemsWithinBound_87 l0 l1 l2 l3 S l6 l4 l6 (0 : Int32)) else (F_X1_itemsWithinBound_87 l0 l1 l2 l3 S l6 l4 l6 (1 : Int32))) else ((oGA S l0 1 2).bind fun x13 => (oAI S x13 .int l3).bind fun x15 => if t0 ≤ x15 then (F_X1_itemsWithinBound_87 l0 l1 l2 l3 S l6 l4 l6 (0 : Int32)) else (F_X1_itemsWithinBound_87 l0 l1 l2 l3 S l6 l4 l6 (1 : Int32)))
set_option maxRecDepth 100000 in
set_option maxHeartbeats 4000000 in
theorem W_X1_itemsWithinBound_36 {X : pX} {Q : pO → Nat → pF → Prop} {mc ms : Nat} (l0 : Nat) (l1 : Nat) (l2 : Nat) (l3 : Int32) (S : pS) (l4 : Int64) (l6 : Int32) (t0 : Int32) (r : (Int64 × Int32) ⊕ (Int64)) (hf : F_X1_itemsWithinBound_36 l0 l1 l2 l3 S l4 l6 t0 = some r) (hk : Sum.elim (fun a' => gW X mX1_itemsWithinBound 6 (L_X1_itemsWithinBound_6 l0 l1 l2 l3 S a') [] (s_X1_itemsWithinBound_6 l0 l1 l2 l3 S a').1 (s_X1_itemsWithinBound_6 l0 l1 l2 l3 S a').2 Q mc ms) (K_X1_itemsWithinBound_6 X Q mc ms l0 l1 l2 l3 S) r) : gW X mX1_itemsWithinBound 36 [some (.ref l0), some (.ref l1), some (.ref l2), some (.int l3), some (.long l4), none, some (.int l6), none] [.int t0] S.1 S.2 Q mc ms := by
  unfold F_X1_itemsWithinBound_36 at hf
  refine r_istore (pc := 36) dX1_itemsWithinBound_36 (by decide) ?_
  change gW _ _ _ [some (.ref l0), some (.ref l1), some (.ref l2), some (.int l3), some (.long l4), none, some (.int l6), some (.int t0)] _ _ _ _ _ _
  refine r_lload (pc := 38) dX1_itemsWithinBound_38 rfl ?_
  refine r_iload (pc := 40) dX1_itemsWithinBound_40 rfl ?_
  refine r_aload_n (pc := 42) dX1_itemsWithinBound_42 rfl ?_
  replace hf := obind hf
  obtain ⟨x3, e4, hf⟩ := hf
  refine q_getA (pc := 43) dX1_itemsWithinBound_43 gX1_9 e4 ?_
  refine r_iload_n (pc := 46) dX1_itemsWithinBound_46 rfl ?_
  replace hf := obind hf
  obtain ⟨x5, e6, hf⟩ := hf
  refine q_iald (pc := 47) dX1_itemsWithinBound_47 e6 ?_
  refine r_iconst (pc := 48) (4 : Int32) dX1_itemsWithinBound_48 (by decide) ?_
  refine r_icmp_ne (pc := 49) 71 dX1_itemsWithinBound_49 (by decide) (fun hc => ?_) (fun hc => ?_)
  · rw [if_pos hc] at hf
    refine r_iload (pc := 71) dX1_itemsWithinBound_71 rfl ?_
    refine r_aload_n (pc := 73) dX1_itemsWithinBound_73 rfl ?_
    replace hf := obind hf
    obtain ⟨x7, e8, hf⟩ := hf
    refine q_getA (pc := 74) dX1_itemsWithinBound_74 gX1_19 e8 ?_
    refine r_iload_n (pc := 77) dX1_itemsWithinBound_77 rfl ?_
    replace hf := obind hf
    obtain ⟨x9, e10, hf⟩ := hf
    refine q_iald (pc := 78) dX1_itemsWithinBound_78 e10 ?_
    refine r_icmp_ge (pc := 79) 86 dX1_itemsWithinBound_79 (by decide) (fun hc => ?_) (fun hc => ?_)
    · rw [if_pos hc] at hf
      refine r_iconst (pc := 86) (0 : Int32) dX1_itemsWithinBound_86 (by decide) ?_
      exact gW.weak (by simp [gle]) (W_X1_itemsWithinBound_87 l0 l1 l2 l3 S l6 l4 l6 (0 : Int32) r hf hk)
    · rw [if_neg hc] at hf
      refine r_iconst (pc := 82) (1 : Int32) dX1_itemsWithinBound_82 (by decide) ?_
      refine r_goto (pc := 83) 87 dX1_itemsWithinBound_83 (by decide) ?_
      exact gW.weak (by simp [gle]) (W_X1_itemsWithinBound_87 l0 l1 l2 l3 S l6 l4 l6 (1 : Int32) r hf hk)
  · rw [if_neg hc] at hf
    refine r_iload (pc := 52) dX1_itemsWithinBound_52 rfl ?_
    refine r_aload_n (pc := 54) dX1_itemsWithinBound_54 rfl ?_
    replace hf := obind hf
    obtain ⟨x13, e14, hf⟩ := hf
    refine q_getA (pc := 55) dX1_itemsWithinBound_55 gX1_19 e14 ?_
    refine r_iload_n (pc := 58) dX1_itemsWithinBound_58 rfl ?_
    replace hf := obind hf
    obtain ⟨x15, e16, hf⟩ := hf
    refine q_iald (pc := 59) dX1_itemsWithinBound_59 e16 ?_
    refine r_icmp_le (pc := 60) 67 dX1_itemsWithinBound_60 (by decide) (fun hc => ?_) (fun hc => ?_)
    · rw [if_pos hc] at hf
      refine r_iconst (pc := 67) (0 : Int32) dX1_itemsWithinBound_67 (by decide) ?_
      refine r_goto (pc := 68) 87 dX1_itemsWithinBound_68 (by decide) ?_
      exact gW.weak (by simp [gle]) (W_X1_itemsWithinBound_87 l0 l1 l2 l3 S l6 l4 l6 (0 : Int32) r hf hk)
    · rw [if_neg hc] at hf
      refine r_iconst (pc := 63) (1 : Int32) dX1_itemsWithinBound_63 (by decide) ?_
      refine r_goto (pc := 64) 87 dX1_itemsWithinBound_64 (by decide) ?_
      exact gW.weak (by simp [gle]) (W_X1_itemsWithinBound_87 l0 l1 l2 l3 S l6 l4 l6 (1 : Int32) r hf hk)
def F_X1_itemsWithinBound_6 (l0 : Nat) (l1 : Nat) (l2 : Nat) (l3 : Int32) (S : pS) : Int64 × Int32 → Option ((Int64 × Int32) ⊕ (Int64)) := fun a => if (61 : Int32) ≤ a.2 then (some (.inr a.1)) else ((F_X8_holds S l1 a.2).bind fun q1 => if q1 = 0 then (F_X1_itemsWithinBound_36 l0 l1 l2 l3 S a.1 a.2 (0 : Int32)) else ((F_X6_familyOf S l2 a.2).bind fun q17 => (F_X8_sumOf S l1 q17).bind fun q19 => F_X1_itemsWithinBound_36 l0 l1 l2 l3 S a.1 a.2 q19))
set_option maxRecDepth 100000 in
set_option maxHeartbeats 4000000 in
theorem W_X1_itemsWithinBound_6 {X : pX} {Q : pO → Nat → pF → Prop} {mc ms : Nat} (l0 : Nat) (l1 : Nat) (l2 : Nat) (l3 : Int32) (S : pS) : ∀ (a : Int64 × Int32) (r : (Int64 × Int32) ⊕ (Int64)), F_X1_itemsWithinBound_6 l0 l1 l2 l3 S a = some r → Sum.elim (fun a' => gW X mX1_itemsWithinBound 6 (L_X1_itemsWithinBound_6 l0 l1 l2 l3 S a') [] (s_X1_itemsWithinBound_6 l0 l1 l2 l3 S a').1 (s_X1_itemsWithinBound_6 l0 l1 l2 l3 S a').2 Q mc ms) (K_X1_itemsWithinBound_6 X Q mc ms l0 l1 l2 l3 S) r → gW X mX1_itemsWithinBound 6 (L_X1_itemsWithinBound_6 l0 l1 l2 l3 S a) [] (s_X1_itemsWithinBound_6 l0 l1 l2 l3 S a).1 (s_X1_itemsWithinBound_6 l0 l1 l2 l3 S a).2 Q mc ms := by
  intro a r hf hk
  obtain ⟨l4, l6⟩ := a
  unfold F_X1_itemsWithinBound_6 at hf
  try dsimp only at hf
  change gW _ _ _ [some (.ref l0), some (.ref l1), some (.ref l2), some (.int l3), some (.long l4), none, some (.int l6), none] _ S.1 S.2 _ _ _
  refine r_iload (pc := 6) dX1_itemsWithinBound_6 rfl ?_
  refine r_bipush (pc := 8) (61 : Int32) dX1_itemsWithinBound_8 (by decide) ?_
  refine r_icmp_ge (pc := 10) 98 dX1_itemsWithinBound_10 (by decide) (fun hc => ?_) (fun hc => ?_)
  · rw [if_pos hc] at hf
    cases hf
    exact gW.weak (by simp [gle]) hk
  · rw [if_neg hc] at hf
    refine r_aload_n (pc := 13) dX1_itemsWithinBound_13 rfl ?_
    refine r_iload (pc := 14) dX1_itemsWithinBound_14 rfl ?_
    replace hf := obind hf
    obtain ⟨q1, e2, hf⟩ := hf
    refine q_callV (pc := 16) (v := some (.int q1)) (S' := S) mX8_holds 8 [.int l6] dX1_itemsWithinBound_16 kX1_120 fX8_holds iX8_holds ⟨by decide, by decide⟩ rfl rfl rfl (Nat.le_of_ble_eq_true rfl) (og e2) (mc1 := 0) (ms1 := 0) (mc2 := mc) (ms2 := ms) (by omega) (by omega) (C_X8_holds S l1 l6 q1 e2 (qR_mk _ _)) ?_
    change gW _ _ _ _ (.int q1 :: _) _ _ _ _ _
    refine r_if_eq (pc := 19) 35 dX1_itemsWithinBound_19 (by decide) (fun hc => ?_) (fun hc => ?_)
    · rw [if_pos hc] at hf
      refine r_iconst (pc := 35) (0 : Int32) dX1_itemsWithinBound_35 (by decide) ?_
      exact gW.weak (by simp [gle]) (W_X1_itemsWithinBound_36 l0 l1 l2 l3 S l4 l6 (0 : Int32) r hf hk)
    · rw [if_neg hc] at hf
      refine r_aload_n (pc := 22) dX1_itemsWithinBound_22 rfl ?_
      refine r_aload_n (pc := 23) dX1_itemsWithinBound_23 rfl ?_
      refine r_iload (pc := 24) dX1_itemsWithinBound_24 rfl ?_
      replace hf := obind hf
      obtain ⟨q17, e18, hf⟩ := hf
      refine q_callV (pc := 26) (v := some (.long q17)) (S' := S) mX6_familyOf 6 [.int l6] dX1_itemsWithinBound_26 kX1_132 fX6_familyOf iX6_familyOf ⟨by decide, by decide⟩ rfl rfl rfl (Nat.le_of_ble_eq_true rfl) (og e18) (mc1 := 0) (ms1 := 0) (mc2 := mc) (ms2 := ms) (by omega) (by omega) (C_X6_familyOf S l2 l6 q17 e18 (qR_mk _ _)) ?_
      change gW _ _ _ _ (.long q17 :: _) _ _ _ _ _
      replace hf := obind hf
      obtain ⟨q19, e20, hf⟩ := hf
      refine q_callV (pc := 29) (v := some (.int q19)) (S' := S) mX8_sumOf 8 [.long q17] dX1_itemsWithinBound_29 kX1_136 fX8_sumOf iX8_sumOf ⟨by decide, by decide⟩ rfl rfl rfl (Nat.le_of_ble_eq_true rfl) (og e20) (mc1 := 0) (ms1 := 0) (mc2 := mc) (ms2 := ms) (by omega) (by omega) (C_X8_sumOf S l1 q17 q19 e20 (qR_mk _ _)) ?_
      change gW _ _ _ _ (.int q19 :: _) _ _ _ _ _
      refine r_goto (pc := 32) 36 dX1_itemsWithinBound_32 (by decide) ?_
      exact gW.weak (by simp [gle]) (W_X1_itemsWithinBound_36 l0 l1 l2 l3 S l4 l6 q19 r hf hk)
def F_X1_itemsWithinBound (S : pS) (a0 : Nat) (a1 : Nat) (a2 : Nat) (a3 : Int32) : Option (Int64) := (oF S a0 1).bind fun _ => (iter (F_X1_itemsWithinBound_6 a0 a1 a2 a3 S) fu ((0 : Int64), (1 : Int32))).bind fun r21 => some r21
set_option maxRecDepth 100000 in
set_option maxHeartbeats 4000000 in
theorem C_X1_itemsWithinBound {X : pX} {Q : pO → Nat → pF → Prop} (S : pS) (a0 : Nat) (a1 : Nat) (a2 : Nat) (a3 : Int32) (r : Int64) (hf : F_X1_itemsWithinBound S a0 a1 a2 a3 = some r) (hk : Q (.inl (some (.long r))) S.1 S.2) : gC X mX1_itemsWithinBound [.ref a0, .ref a1, .ref a2, .int a3] S.1 S.2 Q 0 0 := by
  refine gC_of (by decide) (Nat.le_of_ble_eq_true rfl) rfl ?_
  change gW _ _ _ [some (.ref a0), some (.ref a1), some (.ref a2), some (.int a3), none, none, none, none] _ _ _ _ _ _
  unfold F_X1_itemsWithinBound at hf
  obtain ⟨_, _, hf⟩ := obind hf
  refine r_lconst (pc := 0) (0 : Int64) dX1_itemsWithinBound_0 (by decide) ?_
  refine r_lstore (pc := 1) dX1_itemsWithinBound_1 (by decide) ?_
  change gW _ _ _ [some (.ref a0), some (.ref a1), some (.ref a2), some (.int a3), some (.long (0 : Int64)), none, none, none] _ _ _ _ _ _
  refine r_iconst (pc := 3) (1 : Int32) dX1_itemsWithinBound_3 (by decide) ?_
  refine r_istore (pc := 4) dX1_itemsWithinBound_4 (by decide) ?_
  change gW _ _ _ [some (.ref a0), some (.ref a1), some (.ref a2), some (.int a3), some (.long (0 : Int64)), none, some (.int (1 : Int32)), none] _ _ _ _ _ _
  replace hf := obind hf
  obtain ⟨r21, e22, hf⟩ := hf
  refine gW.weak (ls' := [some (.ref a0), some (.ref a1), some (.ref a2), some (.int a3), some (.long (0 : Int64)), none, some (.int (1 : Int32)), none]) (by simp [gle]) ?_
  refine g_iter (L := L_X1_itemsWithinBound_6 a0 a1 a2 a3 S) (s := s_X1_itemsWithinBound_6 a0 a1 a2 a3 S) (K := K_X1_itemsWithinBound_6 X Q _ _ a0 a1 a2 a3 S) (W_X1_itemsWithinBound_6 a0 a1 a2 a3 S) fu ((0 : Int64), (1 : Int32)) _ e22 ?_
  show gW _ _ 98 [some (.ref a0), some (.ref a1), some (.ref a2), some (.int a3), some (.long r21), none, none, none] [] S.1 S.2 _ _ _
  refine r_lload (pc := 98) dX1_itemsWithinBound_98 rfl ?_
  refine r_lreturn (pc := 100) dX1_itemsWithinBound_100 rfl ?_
  cases hf
  exact hk
def F_X1_fulfillingItems (S : pS) (a0 : Nat) (a1 : Nat) (a2 : Nat) (a3 : Int32) : Option (Int64) := (oF S a0 1).bind fun _ => (oGA S a0 1 0).bind fun x1 => (oAI S x1 .int a3).bind fun x3 => if x3 = (0 : Int32) then ((F_X8_doneItems S a1).bind fun q5 => some q5) else if x3 = (1 : Int32) then ((F_X8_datedItems S a1).bind fun q7 => some q7) else if x3 = (2 : Int32) then ((F_X8_leafItems S a1).bind fun q9 => some q9) else if x3 = (3 : Int32) then ((F_X6_itemsWithManyPlaces S a2).bind fun q11 => some q11) else if x3 = (4 : Int32) then ((F_X1_itemsWithinBound S a0 a1 a2 a3).bind fun q13 => some q13) else if x3 = (5 : Int32) then ((F_X1_itemsWithinBound S a0 a1 a2 a3).bind fun q15 => some q15) else if x3 = (6 : Int32) then ((F_X1_itemsWithLetters S a0 a1 a3).bind fun q17 => some q17) else ((F_X1_itemsWithinBound S a0 a1 a2 a3).bind fun q19 => some q19)
set_option maxRecDepth 100000 in
set_option maxHeartbeats 4000000 in
theorem C_X1_fulfillingItems {X : pX} {Q : pO → Nat → pF → Prop} (S : pS) (a0 : Nat) (a1 : Nat) (a2 : Nat) (a3 : Int32) (r : Int64) (hf : F_X1_fulfillingItems S a0 a1 a2 a3 = some r) (hk : Q (.inl (some (.long r))) S.1 S.2) : gC X mX1_fulfillingItems [.ref a0, .ref a1, .ref a2, .int a3] S.1 S.2 Q 0 0 := by
  refine gC_of (by decide) (Nat.le_of_ble_eq_true rfl) rfl ?_
  change gW _ _ _ [some (.ref a0), some (.ref a1), some (.ref a2), some (.int a3)] _ _ _ _ _ _
  unfold F_X1_fulfillingItems at hf
  obtain ⟨_, _, hf⟩ := obind hf
  refine r_aload_n (pc := 0) dX1_fulfillingItems_0 rfl ?_
  replace hf := obind hf
  obtain ⟨x1, e2, hf⟩ := hf
  refine q_getA (pc := 1) dX1_fulfillingItems_1 gX1_9 e2 ?_
  refine r_iload_n (pc := 4) dX1_fulfillingItems_4 rfl ?_
  replace hf := obind hf
  obtain ⟨x3, e4, hf⟩ := hf
  refine q_iald (pc := 5) dX1_fulfillingItems_5 e4 ?_
  by_cases hc0 : x3 = (0 : Int32)
  · rw [if_pos hc0] at hf
    refine r_tableIn (pc := 6) 48 dX1_fulfillingItems_6 (by rw [hc0]; decide) (by rw [hc0]; decide) (off := 42) (by rw [hc0]; rfl) (by decide) ?_
    refine r_aload_n (pc := 48) dX1_fulfillingItems_48 rfl ?_
    replace hf := obind hf
    obtain ⟨q5, e6, hf⟩ := hf
    refine q_callV (pc := 49) (v := some (.long q5)) (S' := S) mX8_doneItems 8 [] dX1_fulfillingItems_49 kX1_99 fX8_doneItems iX8_doneItems ⟨by decide, by decide⟩ rfl rfl rfl (Nat.le_of_ble_eq_true rfl) (og e6) (mc1 := 0) (ms1 := 0) (mc2 := 0) (ms2 := 0) (by decide) (by decide) (C_X8_doneItems S a1 q5 e6 (qR_mk _ _)) ?_
    change gW _ _ _ _ (.long q5 :: _) _ _ _ _ _
    refine r_lreturn (pc := 52) dX1_fulfillingItems_52 rfl ?_
    cases hf
    exact hk
  rw [if_neg hc0] at hf
  by_cases hc1 : x3 = (1 : Int32)
  · rw [if_pos hc1] at hf
    refine r_tableIn (pc := 6) 53 dX1_fulfillingItems_6 (by rw [hc1]; decide) (by rw [hc1]; decide) (off := 47) (by rw [hc1]; rfl) (by decide) ?_
    refine r_aload_n (pc := 53) dX1_fulfillingItems_53 rfl ?_
    replace hf := obind hf
    obtain ⟨q7, e8, hf⟩ := hf
    refine q_callV (pc := 54) (v := some (.long q7)) (S' := S) mX8_datedItems 8 [] dX1_fulfillingItems_54 kX1_102 fX8_datedItems iX8_datedItems ⟨by decide, by decide⟩ rfl rfl rfl (Nat.le_of_ble_eq_true rfl) (og e8) (mc1 := 0) (ms1 := 0) (mc2 := 0) (ms2 := 0) (by decide) (by decide) (C_X8_datedItems S a1 q7 e8 (qR_mk _ _)) ?_
    change gW _ _ _ _ (.long q7 :: _) _ _ _ _ _
    refine r_lreturn (pc := 57) dX1_fulfillingItems_57 rfl ?_
    cases hf
    exact hk
  rw [if_neg hc1] at hf
  by_cases hc2 : x3 = (2 : Int32)
  · rw [if_pos hc2] at hf
    refine r_tableIn (pc := 6) 58 dX1_fulfillingItems_6 (by rw [hc2]; decide) (by rw [hc2]; decide) (off := 52) (by rw [hc2]; rfl) (by decide) ?_
    refine r_aload_n (pc := 58) dX1_fulfillingItems_58 rfl ?_
    replace hf := obind hf
    obtain ⟨q9, e10, hf⟩ := hf
    refine q_callV (pc := 59) (v := some (.long q9)) (S' := S) mX8_leafItems 8 [] dX1_fulfillingItems_59 kX1_105 fX8_leafItems iX8_leafItems ⟨by decide, by decide⟩ rfl rfl rfl (Nat.le_of_ble_eq_true rfl) (og e10) (mc1 := 0) (ms1 := 0) (mc2 := 0) (ms2 := 0) (by decide) (by decide) (C_X8_leafItems S a1 q9 e10 (qR_mk _ _)) ?_
    change gW _ _ _ _ (.long q9 :: _) _ _ _ _ _
    refine r_lreturn (pc := 62) dX1_fulfillingItems_62 rfl ?_
    cases hf
    exact hk
  rw [if_neg hc2] at hf
  by_cases hc3 : x3 = (3 : Int32)
  · rw [if_pos hc3] at hf
    refine r_tableIn (pc := 6) 63 dX1_fulfillingItems_6 (by rw [hc3]; decide) (by rw [hc3]; decide) (off := 57) (by rw [hc3]; rfl) (by decide) ?_
    refine r_aload_n (pc := 63) dX1_fulfillingItems_63 rfl ?_
    replace hf := obind hf
    obtain ⟨q11, e12, hf⟩ := hf
    refine q_callV (pc := 64) (v := some (.long q11)) (S' := S) mX6_itemsWithManyPlaces 6 [] dX1_fulfillingItems_64 kX1_108 fX6_itemsWithManyPlaces iX6_itemsWithManyPlaces ⟨by decide, by decide⟩ rfl rfl rfl (Nat.le_of_ble_eq_true rfl) (og e12) (mc1 := 0) (ms1 := 0) (mc2 := 0) (ms2 := 0) (by decide) (by decide) (C_X6_itemsWithManyPlaces S a2 q11 e12 (qR_mk _ _)) ?_
    change gW _ _ _ _ (.long q11 :: _) _ _ _ _ _
    refine r_lreturn (pc := 67) dX1_fulfillingItems_67 rfl ?_
    cases hf
    exact hk
  rw [if_neg hc3] at hf
  by_cases hc4 : x3 = (4 : Int32)
  · rw [if_pos hc4] at hf
    refine r_tableIn (pc := 6) 75 dX1_fulfillingItems_6 (by rw [hc4]; decide) (by rw [hc4]; decide) (off := 69) (by rw [hc4]; rfl) (by decide) ?_
    refine r_aload_n (pc := 75) dX1_fulfillingItems_75 rfl ?_
    refine r_aload_n (pc := 76) dX1_fulfillingItems_76 rfl ?_
    refine r_aload_n (pc := 77) dX1_fulfillingItems_77 rfl ?_
    refine r_iload_n (pc := 78) dX1_fulfillingItems_78 rfl ?_
    replace hf := obind hf
    obtain ⟨q13, e14, hf⟩ := hf
    refine q_callV (pc := 79) (v := some (.long q13)) (S' := S) mX1_itemsWithinBound 1 [.ref a1, .ref a2, .int a3] dX1_fulfillingItems_79 kX1_117 fX1_itemsWithinBound iX1_itemsWithinBound ⟨by decide, by decide⟩ rfl rfl rfl (Nat.le_of_ble_eq_true rfl) (og e14) (mc1 := 0) (ms1 := 0) (mc2 := 0) (ms2 := 0) (by decide) (by decide) (C_X1_itemsWithinBound S a0 a1 a2 a3 q13 e14 (qR_mk _ _)) ?_
    change gW _ _ _ _ (.long q13 :: _) _ _ _ _ _
    refine r_lreturn (pc := 82) dX1_fulfillingItems_82 rfl ?_
    cases hf
    exact hk
  rw [if_neg hc4] at hf
  by_cases hc5 : x3 = (5 : Int32)
  · rw [if_pos hc5] at hf
    refine r_tableIn (pc := 6) 75 dX1_fulfillingItems_6 (by rw [hc5]; decide) (by rw [hc5]; decide) (off := 69) (by rw [hc5]; rfl) (by decide) ?_
    refine r_aload_n (pc := 75) dX1_fulfillingItems_75 rfl ?_
    refine r_aload_n (pc := 76) dX1_fulfillingItems_76 rfl ?_
    refine r_aload_n (pc := 77) dX1_fulfillingItems_77 rfl ?_
    refine r_iload_n (pc := 78) dX1_fulfillingItems_78 rfl ?_
    replace hf := obind hf
    obtain ⟨q15, e16, hf⟩ := hf
    refine q_callV (pc := 79) (v := some (.long q15)) (S' := S) mX1_itemsWithinBound 1 [.ref a1, .ref a2, .int a3] dX1_fulfillingItems_79 kX1_117 fX1_itemsWithinBound iX1_itemsWithinBound ⟨by decide, by decide⟩ rfl rfl rfl (Nat.le_of_ble_eq_true rfl) (og e16) (mc1 := 0) (ms1 := 0) (mc2 := 0) (ms2 := 0) (by decide) (by decide) (C_X1_itemsWithinBound S a0 a1 a2 a3 q15 e16 (qR_mk _ _)) ?_
    change gW _ _ _ _ (.long q15 :: _) _ _ _ _ _
    refine r_lreturn (pc := 82) dX1_fulfillingItems_82 rfl ?_
    cases hf
    exact hk
  rw [if_neg hc5] at hf
  by_cases hc6 : x3 = (6 : Int32)
  · rw [if_pos hc6] at hf
    refine r_tableIn (pc := 6) 68 dX1_fulfillingItems_6 (by rw [hc6]; decide) (by rw [hc6]; decide) (off := 62) (by rw [hc6]; rfl) (by decide) ?_
    refine r_aload_n (pc := 68) dX1_fulfillingItems_68 rfl ?_
    refine r_aload_n (pc := 69) dX1_fulfillingItems_69 rfl ?_
    refine r_iload_n (pc := 70) dX1_fulfillingItems_70 rfl ?_
    replace hf := obind hf
    obtain ⟨q17, e18, hf⟩ := hf
    refine q_callV (pc := 71) (v := some (.long q17)) (S' := S) mX1_itemsWithLetters 1 [.ref a1, .int a3] dX1_fulfillingItems_71 kX1_113 fX1_itemsWithLetters iX1_itemsWithLetters ⟨by decide, by decide⟩ rfl rfl rfl (Nat.le_of_ble_eq_true rfl) (og e18) (mc1 := 0) (ms1 := 0) (mc2 := 0) (ms2 := 0) (by decide) (by decide) (C_X1_itemsWithLetters S a0 a1 a3 q17 e18 (qR_mk _ _)) ?_
    change gW _ _ _ _ (.long q17 :: _) _ _ _ _ _
    refine r_lreturn (pc := 74) dX1_fulfillingItems_74 rfl ?_
    cases hf
    exact hk
  rw [if_neg hc6] at hf
  refine r_tableOut (pc := 6) 75 dX1_fulfillingItems_6 (by
    have := tsw_out x3 (0) 7 (fun j hj => by
      match j, hj with
      | 0, _ => exact hc0
      | 1, _ => exact hc1
      | 2, _ => exact hc2
      | 3, _ => exact hc3
      | 4, _ => exact hc4
      | 5, _ => exact hc5
      | 6, _ => exact hc6
      | j + 7, hj => exact absurd hj (by omega))
    simpa using this) (by decide) ?_
  refine r_aload_n (pc := 75) dX1_fulfillingItems_75 rfl ?_
  refine r_aload_n (pc := 76) dX1_fulfillingItems_76 rfl ?_
  refine r_aload_n (pc := 77) dX1_fulfillingItems_77 rfl ?_
  refine r_iload_n (pc := 78) dX1_fulfillingItems_78 rfl ?_
  replace hf := obind hf
  obtain ⟨q19, e20, hf⟩ := hf
  refine q_callV (pc := 79) (v := some (.long q19)) (S' := S) mX1_itemsWithinBound 1 [.ref a1, .ref a2, .int a3] dX1_fulfillingItems_79 kX1_117 fX1_itemsWithinBound iX1_itemsWithinBound ⟨by decide, by decide⟩ rfl rfl rfl (Nat.le_of_ble_eq_true rfl) (og e20) (mc1 := 0) (ms1 := 0) (mc2 := 0) (ms2 := 0) (by decide) (by decide) (C_X1_itemsWithinBound S a0 a1 a2 a3 q19 e20 (qR_mk _ _)) ?_
  change gW _ _ _ _ (.long q19 :: _) _ _ _ _ _
  refine r_lreturn (pc := 82) dX1_fulfillingItems_82 rfl ?_
  cases hf
  exact hk
abbrev L_X1_fittingItems_12 (l0 : Nat) (l1 : Nat) (l2 : Nat) (S : pS) : Int64 × Int32 → List (Option Value) := fun a => [some (.ref l0), some (.ref l1), some (.ref l2), some (.long a.1), none, some (.int a.2), none, none]
abbrev s_X1_fittingItems_12 (l0 : Nat) (l1 : Nat) (l2 : Nat) (S : pS) : Int64 × Int32 → pS := fun a => S
abbrev K_X1_fittingItems_12 (X : pX) (Q : pO → Nat → pF → Prop) (mc ms : Nat) (l0 : Nat) (l1 : Nat) (l2 : Nat) (S : pS) : Int64 → Prop := (fun b => gW X mX1_fittingItems 61 [some (.ref l0), some (.ref l1), some (.ref l2), some (.long b), none, none, none, none] [] S.1 S.2 Q mc ms)
def F_X1_fittingItems_12 (l0 : Nat) (l1 : Nat) (l2 : Nat) (S : pS) : Int64 × Int32 → Option ((Int64 × Int32) ⊕ (Int64)) := fun a => (oGI S l0 1 5).bind fun x3 => if x3 ≤ a.2 then (some (.inr a.1)) else ((F_X1_fulfillingItems S l0 l1 l2 a.2).bind fun q5 => (oGA S l0 1 1).bind fun x7 => (oAI S x7 .boolean a.2).bind fun x9 => if x9 = 0 then (some (.inl (a.1 &&& q5, a.2 + (1 : Int32)))) else (some (.inl (a.1 &&& (q5 ^^^ (-1 : Int64)), a.2 + (1 : Int32)))))
set_option maxRecDepth 100000 in
set_option maxHeartbeats 4000000 in
theorem W_X1_fittingItems_12 {X : pX} {Q : pO → Nat → pF → Prop} {mc ms : Nat} (l0 : Nat) (l1 : Nat) (l2 : Nat) (S : pS) : ∀ (a : Int64 × Int32) (r : (Int64 × Int32) ⊕ (Int64)), F_X1_fittingItems_12 l0 l1 l2 S a = some r → Sum.elim (fun a' => gW X mX1_fittingItems 12 (L_X1_fittingItems_12 l0 l1 l2 S a') [] (s_X1_fittingItems_12 l0 l1 l2 S a').1 (s_X1_fittingItems_12 l0 l1 l2 S a').2 Q mc ms) (K_X1_fittingItems_12 X Q mc ms l0 l1 l2 S) r → gW X mX1_fittingItems 12 (L_X1_fittingItems_12 l0 l1 l2 S a) [] (s_X1_fittingItems_12 l0 l1 l2 S a).1 (s_X1_fittingItems_12 l0 l1 l2 S a).2 Q mc ms := by
  intro a r hf hk
  obtain ⟨l3, l5⟩ := a
  unfold F_X1_fittingItems_12 at hf
  try dsimp only at hf
  change gW _ _ _ [some (.ref l0), some (.ref l1), some (.ref l2), some (.long l3), none, some (.int l5), none, none] _ S.1 S.2 _ _ _
  refine r_iload (pc := 12) dX1_fittingItems_12 rfl ?_
  refine r_aload_n (pc := 14) dX1_fittingItems_14 rfl ?_
  replace hf := obind hf
  obtain ⟨x3, e4, hf⟩ := hf
  refine q_getI (pc := 15) dX1_fittingItems_15 gX1_29 e4 ?_
  refine r_icmp_ge (pc := 18) 61 dX1_fittingItems_18 (by decide) (fun hc => ?_) (fun hc => ?_)
  · rw [if_pos hc] at hf
    cases hf
    exact gW.weak (by simp [gle]) hk
  · rw [if_neg hc] at hf
    refine r_aload_n (pc := 21) dX1_fittingItems_21 rfl ?_
    refine r_aload_n (pc := 22) dX1_fittingItems_22 rfl ?_
    refine r_aload_n (pc := 23) dX1_fittingItems_23 rfl ?_
    refine r_iload (pc := 24) dX1_fittingItems_24 rfl ?_
    replace hf := obind hf
    obtain ⟨q5, e6, hf⟩ := hf
    refine q_callV (pc := 26) (v := some (.long q5)) (S' := S) mX1_fulfillingItems 1 [.ref l1, .ref l2, .int l5] dX1_fittingItems_26 kX1_93 fX1_fulfillingItems iX1_fulfillingItems ⟨by decide, by decide⟩ rfl rfl rfl (Nat.le_of_ble_eq_true rfl) (og e6) (mc1 := 0) (ms1 := 0) (mc2 := mc) (ms2 := ms) (by omega) (by omega) (C_X1_fulfillingItems S l0 l1 l2 l5 q5 e6 (qR_mk _ _)) ?_
    change gW _ _ _ _ (.long q5 :: _) _ _ _ _ _
    refine r_lstore (pc := 29) dX1_fittingItems_29 (by decide) ?_
    change gW _ _ _ [some (.ref l0), some (.ref l1), some (.ref l2), some (.long l3), none, some (.int l5), some (.long q5), none] _ _ _ _ _ _
    refine r_lload_n (pc := 31) dX1_fittingItems_31 rfl ?_
    refine r_aload_n (pc := 32) dX1_fittingItems_32 rfl ?_
    replace hf := obind hf
    obtain ⟨x7, e8, hf⟩ := hf
    refine q_getA (pc := 33) dX1_fittingItems_33 gX1_15 e8 ?_
    refine r_iload (pc := 36) dX1_fittingItems_36 rfl ?_
    replace hf := obind hf
    obtain ⟨x9, e10, hf⟩ := hf
    refine q_zald (pc := 38) dX1_fittingItems_38 e10 ?_
    refine r_if_eq (pc := 39) 51 dX1_fittingItems_39 (by decide) (fun hc => ?_) (fun hc => ?_)
    · rw [if_pos hc] at hf
      refine r_lload (pc := 51) dX1_fittingItems_51 rfl ?_
      refine r_land (pc := 53) dX1_fittingItems_53 ?_
      refine r_lstore_n (pc := 54) dX1_fittingItems_54 (by decide) ?_
      change gW _ _ _ [some (.ref l0), some (.ref l1), some (.ref l2), some (.long (l3 &&& q5)), none, some (.int l5), some (.long q5), none] _ _ _ _ _ _
      refine r_iinc (pc := 55) dX1_fittingItems_55 rfl (by decide) ?_
      change gW _ _ _ [some (.ref l0), some (.ref l1), some (.ref l2), some (.long (l3 &&& q5)), none, some (.int (l5 + (1 : Int32))), some (.long q5), none] _ _ _ _ _ _
      refine r_goto (pc := 58) 12 dX1_fittingItems_58 (by decide) ?_
      cases hf
      exact gW.weak (by simp [gle]) hk
    · rw [if_neg hc] at hf
      refine r_lload (pc := 42) dX1_fittingItems_42 rfl ?_
      refine r_ldc2 (pc := 44) dX1_fittingItems_44 kX1_97 ?_
      refine r_lxor (pc := 47) dX1_fittingItems_47 ?_
      refine r_goto (pc := 48) 53 dX1_fittingItems_48 (by decide) ?_
      refine r_land (pc := 53) dX1_fittingItems_53 ?_
      refine r_lstore_n (pc := 54) dX1_fittingItems_54 (by decide) ?_
      change gW _ _ _ [some (.ref l0), some (.ref l1), some (.ref l2), some (.long (l3 &&& (q5 ^^^ (-1 : Int64)))), none, some (.int l5), some (.long q5), none] _ _ _ _ _ _
      refine r_iinc (pc := 55) dX1_fittingItems_55 rfl (by decide) ?_
      change gW _ _ _ [some (.ref l0), some (.ref l1), some (.ref l2), some (.long (l3 &&& (q5 ^^^ (-1 : Int64)))), none, some (.int (l5 + (1 : Int32))), some (.long q5), none] _ _ _ _ _ _
      refine r_goto (pc := 58) 12 dX1_fittingItems_58 (by decide) ?_
      cases hf
      exact gW.weak (by simp [gle]) hk
def F_X1_fittingItems (S : pS) (a0 : Nat) (a1 : Nat) (a2 : Nat) : Option (Int64) := (oF S a0 1).bind fun _ => (F_X8_presentItems S a1).bind fun q1 => (iter (F_X1_fittingItems_12 a0 a1 a2 S) fu (q1 &&& (-2 : Int64), (0 : Int32))).bind fun r11 => some r11
set_option maxRecDepth 100000 in
set_option maxHeartbeats 4000000 in
theorem C_X1_fittingItems {X : pX} {Q : pO → Nat → pF → Prop} (S : pS) (a0 : Nat) (a1 : Nat) (a2 : Nat) (r : Int64) (hf : F_X1_fittingItems S a0 a1 a2 = some r) (hk : Q (.inl (some (.long r))) S.1 S.2) : gC X mX1_fittingItems [.ref a0, .ref a1, .ref a2] S.1 S.2 Q 0 0 := by
  refine gC_of (by decide) (Nat.le_of_ble_eq_true rfl) rfl ?_
  change gW _ _ _ [some (.ref a0), some (.ref a1), some (.ref a2), none, none, none, none, none] _ _ _ _ _ _
  unfold F_X1_fittingItems at hf
  obtain ⟨_, _, hf⟩ := obind hf
  refine r_aload_n (pc := 0) dX1_fittingItems_0 rfl ?_
  replace hf := obind hf
  obtain ⟨q1, e2, hf⟩ := hf
  refine q_callV (pc := 1) (v := some (.long q1)) (S' := S) mX8_presentItems 8 [] dX1_fittingItems_1 kX1_85 fX8_presentItems iX8_presentItems ⟨by decide, by decide⟩ rfl rfl rfl (Nat.le_of_ble_eq_true rfl) (og e2) (mc1 := 0) (ms1 := 0) (mc2 := 0) (ms2 := 0) (by decide) (by decide) (C_X8_presentItems S a1 q1 e2 (qR_mk _ _)) ?_
  change gW _ _ _ _ (.long q1 :: _) _ _ _ _ _
  refine r_ldc2 (pc := 4) dX1_fittingItems_4 kX1_91 ?_
  refine r_land (pc := 7) dX1_fittingItems_7 ?_
  refine r_lstore_n (pc := 8) dX1_fittingItems_8 (by decide) ?_
  change gW _ _ _ [some (.ref a0), some (.ref a1), some (.ref a2), some (.long (q1 &&& (-2 : Int64))), none, none, none, none] _ _ _ _ _ _
  refine r_iconst (pc := 9) (0 : Int32) dX1_fittingItems_9 (by decide) ?_
  refine r_istore (pc := 10) dX1_fittingItems_10 (by decide) ?_
  change gW _ _ _ [some (.ref a0), some (.ref a1), some (.ref a2), some (.long (q1 &&& (-2 : Int64))), none, some (.int (0 : Int32)), none, none] _ _ _ _ _ _
  replace hf := obind hf
  obtain ⟨r11, e12, hf⟩ := hf
  refine gW.weak (ls' := [some (.ref a0), some (.ref a1), some (.ref a2), some (.long (q1 &&& (-2 : Int64))), none, some (.int (0 : Int32)), none, none]) (by simp [gle]) ?_
  refine g_iter (L := L_X1_fittingItems_12 a0 a1 a2 S) (s := s_X1_fittingItems_12 a0 a1 a2 S) (K := K_X1_fittingItems_12 X Q _ _ a0 a1 a2 S) (W_X1_fittingItems_12 a0 a1 a2 S) fu (q1 &&& (-2 : Int64), (0 : Int32)) _ e12 ?_
  show gW _ _ 61 [some (.ref a0), some (.ref a1), some (.ref a2), some (.long r11), none, none, none, none] [] S.1 S.2 _ _ _
  refine r_lload_n (pc := 61) dX1_fittingItems_61 rfl ?_
  refine r_lreturn (pc := 62) dX1_fittingItems_62 rfl ?_
  cases hf
  exact hk
def F_X2_init (S : pS) (a0 : Nat) : Option (pS) := (oPA (oNew S (.inl (.int, 40, .inl (fun _ => 0)))) a0 2 0 S.1).bind fun S1 => (oPA (oNew S1 (.inl (.int, 40, .inl (fun _ => 0)))) a0 2 1 S1.1).bind fun S3 => (oPA (oNew S3 (.inl (.char, 400, .inl (fun _ => 0)))) a0 2 2 S3.1).bind fun S5 => (oPA (oNew S5 (.inl (.int, 40, .inl (fun _ => 0)))) a0 2 3 S5.1).bind fun S7 => (oPA (oNew S7 (.inl (.int, 40, .inl (fun _ => 0)))) a0 2 4 S7.1).bind fun S9 => (oPA (oNew S9 (.inl (.int, 40, .inl (fun _ => 0)))) a0 2 5 S9.1).bind fun S11 => (oPA (oNew S11 (.inl (.boolean, 40, .inl (fun _ => 0)))) a0 2 6 S11.1).bind fun S13 => (oPA (oNew S13 (.inl (.int, 40, .inl (fun _ => 0)))) a0 2 7 S13.1).bind fun S15 => (oPI S15 a0 2 8 (0 : Int32)).bind fun S17 => some S17
set_option maxRecDepth 100000 in
set_option maxHeartbeats 4000000 in
theorem C_X2_init {X : pX} {Q : pO → Nat → pF → Prop} (S : pS) (a0 : Nat) (r : pS) (hf : F_X2_init S a0 = some r) (hk : Q (.inl none) r.1 r.2) : gC X mX2_init [.ref a0] S.1 S.2 Q 8 680 := by
  refine gC_of (by decide) (Nat.le_of_ble_eq_true rfl) rfl ?_
  change gW _ _ _ [some (.ref a0)] _ _ _ _ _ _
  unfold F_X2_init at hf
  refine r_aload_n (pc := 0) dX2_init_0 rfl ?_
  refine r_objInit (pc := 1) dX2_init_1 kX2_3 k_obj.1 k_obj.2 ⟨by decide, Nat.le_of_ble_eq_true rfl⟩ ?_
  refine r_aload_n (pc := 4) dX2_init_4 rfl ?_
  refine r_bipush (pc := 5) (40 : Int32) dX2_init_5 (by decide) ?_
  refine r_newa (pc := 7) .int .int (40, .inl (fun _ => 0)) dX2_init_7 rfl (by decide) k_arr_int (fun _ => rfl) (fun _ => rfl) (by decide) (by decide) (by decide) (mc2 := 7) (ms2 := 640) (by decide) (by decide) ?_
  change gW _ _ _ _ _ (oNew S (.inl (.int, 40, .inl (fun _ => 0)))).1 (oNew S (.inl (.int, 40, .inl (fun _ => 0)))).2 _ _ _
  replace hf := obind hf
  obtain ⟨S1, e2, hf⟩ := hf
  refine q_putAF (pc := 9) dX2_init_9 pX2_9 (Or.inr ⟨_, rfl⟩) rfl e2 ?_
  refine r_aload_n (pc := 12) dX2_init_12 rfl ?_
  refine r_bipush (pc := 13) (40 : Int32) dX2_init_13 (by decide) ?_
  refine r_newa (pc := 15) .int .int (40, .inl (fun _ => 0)) dX2_init_15 rfl (by decide) k_arr_int (fun _ => rfl) (fun _ => rfl) (by decide) (by decide) (by decide) (mc2 := 6) (ms2 := 600) (by decide) (by decide) ?_
  change gW _ _ _ _ _ (oNew S1 (.inl (.int, 40, .inl (fun _ => 0)))).1 (oNew S1 (.inl (.int, 40, .inl (fun _ => 0)))).2 _ _ _
  replace hf := obind hf
  obtain ⟨S3, e4, hf⟩ := hf
  refine q_putAF (pc := 17) dX2_init_17 pX2_15 (Or.inr ⟨_, rfl⟩) rfl e4 ?_
  refine r_aload_n (pc := 20) dX2_init_20 rfl ?_
  refine r_sipush (pc := 21) (400 : Int32) dX2_init_21 (by decide) ?_
  refine r_newa (pc := 24) .char .char (400, .inl (fun _ => 0)) dX2_init_24 rfl (by decide) k_arr_char (fun _ => rfl) (fun _ => rfl) (by decide) (by decide) (by decide) (mc2 := 5) (ms2 := 200) (by decide) (by decide) ?_
  change gW _ _ _ _ _ (oNew S3 (.inl (.char, 400, .inl (fun _ => 0)))).1 (oNew S3 (.inl (.char, 400, .inl (fun _ => 0)))).2 _ _ _
  replace hf := obind hf
  obtain ⟨S5, e6, hf⟩ := hf
  refine q_putAF (pc := 26) dX2_init_26 pX2_18 (Or.inr ⟨_, rfl⟩) rfl e6 ?_
  refine r_aload_n (pc := 29) dX2_init_29 rfl ?_
  refine r_bipush (pc := 30) (40 : Int32) dX2_init_30 (by decide) ?_
  refine r_newa (pc := 32) .int .int (40, .inl (fun _ => 0)) dX2_init_32 rfl (by decide) k_arr_int (fun _ => rfl) (fun _ => rfl) (by decide) (by decide) (by decide) (mc2 := 4) (ms2 := 160) (by decide) (by decide) ?_
  change gW _ _ _ _ _ (oNew S5 (.inl (.int, 40, .inl (fun _ => 0)))).1 (oNew S5 (.inl (.int, 40, .inl (fun _ => 0)))).2 _ _ _
  replace hf := obind hf
  obtain ⟨S7, e8, hf⟩ := hf
  refine q_putAF (pc := 34) dX2_init_34 pX2_22 (Or.inr ⟨_, rfl⟩) rfl e8 ?_
  refine r_aload_n (pc := 37) dX2_init_37 rfl ?_
  refine r_bipush (pc := 38) (40 : Int32) dX2_init_38 (by decide) ?_
  refine r_newa (pc := 40) .int .int (40, .inl (fun _ => 0)) dX2_init_40 rfl (by decide) k_arr_int (fun _ => rfl) (fun _ => rfl) (by decide) (by decide) (by decide) (mc2 := 3) (ms2 := 120) (by decide) (by decide) ?_
  change gW _ _ _ _ _ (oNew S7 (.inl (.int, 40, .inl (fun _ => 0)))).1 (oNew S7 (.inl (.int, 40, .inl (fun _ => 0)))).2 _ _ _
  replace hf := obind hf
  obtain ⟨S9, e10, hf⟩ := hf
  refine q_putAF (pc := 42) dX2_init_42 pX2_25 (Or.inr ⟨_, rfl⟩) rfl e10 ?_
  refine r_aload_n (pc := 45) dX2_init_45 rfl ?_
  refine r_bipush (pc := 46) (40 : Int32) dX2_init_46 (by decide) ?_
  refine r_newa (pc := 48) .int .int (40, .inl (fun _ => 0)) dX2_init_48 rfl (by decide) k_arr_int (fun _ => rfl) (fun _ => rfl) (by decide) (by decide) (by decide) (mc2 := 2) (ms2 := 80) (by decide) (by decide) ?_
  change gW _ _ _ _ _ (oNew S9 (.inl (.int, 40, .inl (fun _ => 0)))).1 (oNew S9 (.inl (.int, 40, .inl (fun _ => 0)))).2 _ _ _
  replace hf := obind hf
  obtain ⟨S11, e12, hf⟩ := hf
  refine q_putAF (pc := 50) dX2_init_50 pX2_28 (Or.inr ⟨_, rfl⟩) rfl e12 ?_
  refine r_aload_n (pc := 53) dX2_init_53 rfl ?_
  refine r_bipush (pc := 54) (40 : Int32) dX2_init_54 (by decide) ?_
  refine r_newa (pc := 56) .boolean .boolean (40, .inl (fun _ => 0)) dX2_init_56 rfl (by decide) k_arr_boolean (fun _ => rfl) (fun _ => rfl) (by decide) (by decide) (by decide) (mc2 := 1) (ms2 := 40) (by decide) (by decide) ?_
  change gW _ _ _ _ _ (oNew S11 (.inl (.boolean, 40, .inl (fun _ => 0)))).1 (oNew S11 (.inl (.boolean, 40, .inl (fun _ => 0)))).2 _ _ _
  replace hf := obind hf
  obtain ⟨S13, e14, hf⟩ := hf
  refine q_putAF (pc := 58) dX2_init_58 pX2_31 (Or.inr ⟨_, rfl⟩) rfl e14 ?_
  refine r_aload_n (pc := 61) dX2_init_61 rfl ?_
  refine r_bipush (pc := 62) (40 : Int32) dX2_init_62 (by decide) ?_
  refine r_newa (pc := 64) .int .int (40, .inl (fun _ => 0)) dX2_init_64 rfl (by decide) k_arr_int (fun _ => rfl) (fun _ => rfl) (by decide) (by decide) (by decide) (mc2 := 0) (ms2 := 0) (by decide) (by decide) ?_
  change gW _ _ _ _ _ (oNew S13 (.inl (.int, 40, .inl (fun _ => 0)))).1 (oNew S13 (.inl (.int, 40, .inl (fun _ => 0)))).2 _ _ _
  replace hf := obind hf
  obtain ⟨S15, e16, hf⟩ := hf
  refine q_putAF (pc := 66) dX2_init_66 pX2_35 (Or.inr ⟨_, rfl⟩) rfl e16 ?_
  refine r_aload_n (pc := 69) dX2_init_69 rfl ?_
  refine r_iconst (pc := 70) (0 : Int32) dX2_init_70 (by decide) ?_
  replace hf := obind hf
  obtain ⟨S17, e18, hf⟩ := hf
  refine q_putI (pc := 71) dX2_init_71 pX2_38 rfl e18 ?_
  refine r_return (pc := 74) dX2_init_74 rfl ?_
  cases hf
  exact hk
def F_X2_size (S : pS) (a0 : Nat) : Option (Int32) := (oF S a0 2).bind fun _ => (oGI S a0 2 8).bind fun x1 => some x1
set_option maxRecDepth 100000 in
set_option maxHeartbeats 4000000 in
theorem C_X2_size {X : pX} {Q : pO → Nat → pF → Prop} (S : pS) (a0 : Nat) (r : Int32) (hf : F_X2_size S a0 = some r) (hk : Q (.inl (some (.int r))) S.1 S.2) : gC X mX2_size [.ref a0] S.1 S.2 Q 0 0 := by
  refine gC_of (by decide) (Nat.le_of_ble_eq_true rfl) rfl ?_
  change gW _ _ _ [some (.ref a0)] _ _ _ _ _ _
  unfold F_X2_size at hf
  obtain ⟨_, _, hf⟩ := obind hf
  refine r_aload_n (pc := 0) dX2_size_0 rfl ?_
  replace hf := obind hf
  obtain ⟨x1, e2, hf⟩ := hf
  refine q_getI (pc := 1) dX2_size_1 gX2_38 e2 ?_
  refine r_ireturn (pc := 4) .int dX2_size_4 rfl rfl ?_
  cases hf
  exact hk
def F_X2_isClone (S : pS) (a0 : Nat) (a1 : Int32) : Option (Int32) := (oF S a0 2).bind fun _ => (oGA S a0 2 1).bind fun x1 => (oAI S x1 .int a1).bind fun x3 => if x3 = (-1000000 : Int32) then (some (0 : Int32)) else (some (1 : Int32))
set_option maxRecDepth 100000 in
set_option maxHeartbeats 4000000 in
theorem C_X2_isClone {X : pX} {Q : pO → Nat → pF → Prop} (S : pS) (a0 : Nat) (a1 : Int32) (r : Int32) (hf : F_X2_isClone S a0 a1 = some r) (hk : Q (.inl (some (.int r))) S.1 S.2) : gC X mX2_isClone [.ref a0, .int a1] S.1 S.2 Q 0 0 := by
  refine gC_of (by decide) (Nat.le_of_ble_eq_true rfl) rfl ?_
  change gW _ _ _ [some (.ref a0), some (.int a1)] _ _ _ _ _ _
  unfold F_X2_isClone at hf
  obtain ⟨_, _, hf⟩ := obind hf
  refine r_aload_n (pc := 0) dX2_isClone_0 rfl ?_
  replace hf := obind hf
  obtain ⟨x1, e2, hf⟩ := hf
  refine q_getA (pc := 1) dX2_isClone_1 gX2_15 e2 ?_
  refine r_iload_n (pc := 4) dX2_isClone_4 rfl ?_
  replace hf := obind hf
  obtain ⟨x3, e4, hf⟩ := hf
  refine q_iald (pc := 5) dX2_isClone_5 e4 ?_
  refine r_ldc (pc := 6) dX2_isClone_6 kX2_42 ?_
  refine r_icmp_eq (pc := 8) 15 dX2_isClone_8 (by decide) (fun hc => ?_) (fun hc => ?_)
  · rw [if_pos hc] at hf
    refine r_iconst (pc := 15) (0 : Int32) dX2_isClone_15 (by decide) ?_
    refine r_ireturn (pc := 16) .boolean dX2_isClone_16 rfl rfl ?_
    cases hf
    exact hk
  · rw [if_neg hc] at hf
    refine r_iconst (pc := 11) (1 : Int32) dX2_isClone_11 (by decide) ?_
    refine r_goto (pc := 12) 16 dX2_isClone_12 (by decide) ?_
    refine r_ireturn (pc := 16) .boolean dX2_isClone_16 rfl rfl ?_
    cases hf
    exact hk
def F_X2_deepestLevel (S : pS) (a0 : Nat) (a1 : Int32) : Option (Int32) := (oF S a0 2).bind fun _ => if ¬ a1 = 0 then ((F_X2_isClone S a0 (a1 - (1 : Int32))).bind fun q1 => if q1 = 0 then ((oGA S a0 2 0).bind fun x3 => (oAI S x3 .int (a1 - (1 : Int32))).bind fun x5 => some (x5 + (1 : Int32))) else ((oGA S a0 2 0).bind fun x7 => (oAI S x7 .int (a1 - (1 : Int32))).bind fun x9 => some x9)) else (some (0 : Int32))
set_option maxRecDepth 100000 in
set_option maxHeartbeats 4000000 in
theorem C_X2_deepestLevel {X : pX} {Q : pO → Nat → pF → Prop} (S : pS) (a0 : Nat) (a1 : Int32) (r : Int32) (hf : F_X2_deepestLevel S a0 a1 = some r) (hk : Q (.inl (some (.int r))) S.1 S.2) : gC X mX2_deepestLevel [.ref a0, .int a1] S.1 S.2 Q 0 0 := by
  refine gC_of (by decide) (Nat.le_of_ble_eq_true rfl) rfl ?_
  change gW _ _ _ [some (.ref a0), some (.int a1)] _ _ _ _ _ _
  unfold F_X2_deepestLevel at hf
  obtain ⟨_, _, hf⟩ := obind hf
  refine r_iload_n (pc := 0) dX2_deepestLevel_0 rfl ?_
  refine r_if_ne (pc := 1) 6 dX2_deepestLevel_1 (by decide) (fun hc => ?_) (fun hc => ?_)
  · rw [if_pos hc] at hf
    refine r_aload_n (pc := 6) dX2_deepestLevel_6 rfl ?_
    refine r_iload_n (pc := 7) dX2_deepestLevel_7 rfl ?_
    refine r_iconst (pc := 8) (1 : Int32) dX2_deepestLevel_8 (by decide) ?_
    refine r_isub (pc := 9) dX2_deepestLevel_9 ?_
    replace hf := obind hf
    obtain ⟨q1, e2, hf⟩ := hf
    refine q_callV (pc := 10) (v := some (.int q1)) (S' := S) mX2_isClone 2 [.int (a1 - (1 : Int32))] dX2_deepestLevel_10 kX2_70 fX2_isClone iX2_isClone ⟨by decide, by decide⟩ rfl rfl rfl (Nat.le_of_ble_eq_true rfl) (og e2) (mc1 := 0) (ms1 := 0) (mc2 := 0) (ms2 := 0) (by decide) (by decide) (C_X2_isClone S a0 (a1 - (1 : Int32)) q1 e2 (qR_mk _ _)) ?_
    change gW _ _ _ _ (.int q1 :: _) _ _ _ _ _
    refine r_if_eq (pc := 13) 27 dX2_deepestLevel_13 (by decide) (fun hc => ?_) (fun hc => ?_)
    · rw [if_pos hc] at hf
      refine r_aload_n (pc := 27) dX2_deepestLevel_27 rfl ?_
      replace hf := obind hf
      obtain ⟨x3, e4, hf⟩ := hf
      refine q_getA (pc := 28) dX2_deepestLevel_28 gX2_9 e4 ?_
      refine r_iload_n (pc := 31) dX2_deepestLevel_31 rfl ?_
      refine r_iconst (pc := 32) (1 : Int32) dX2_deepestLevel_32 (by decide) ?_
      refine r_isub (pc := 33) dX2_deepestLevel_33 ?_
      replace hf := obind hf
      obtain ⟨x5, e6, hf⟩ := hf
      refine q_iald (pc := 34) dX2_deepestLevel_34 e6 ?_
      refine r_iconst (pc := 35) (1 : Int32) dX2_deepestLevel_35 (by decide) ?_
      refine r_iadd (pc := 36) dX2_deepestLevel_36 ?_
      refine r_ireturn (pc := 37) .int dX2_deepestLevel_37 rfl rfl ?_
      cases hf
      exact hk
    · rw [if_neg hc] at hf
      refine r_aload_n (pc := 16) dX2_deepestLevel_16 rfl ?_
      replace hf := obind hf
      obtain ⟨x7, e8, hf⟩ := hf
      refine q_getA (pc := 17) dX2_deepestLevel_17 gX2_9 e8 ?_
      refine r_iload_n (pc := 20) dX2_deepestLevel_20 rfl ?_
      refine r_iconst (pc := 21) (1 : Int32) dX2_deepestLevel_21 (by decide) ?_
      refine r_isub (pc := 22) dX2_deepestLevel_22 ?_
      replace hf := obind hf
      obtain ⟨x9, e10, hf⟩ := hf
      refine q_iald (pc := 23) dX2_deepestLevel_23 e10 ?_
      refine r_goto (pc := 24) 37 dX2_deepestLevel_24 (by decide) ?_
      refine r_ireturn (pc := 37) .int dX2_deepestLevel_37 rfl rfl ?_
      cases hf
      exact hk
  · rw [if_neg hc] at hf
    refine r_iconst (pc := 4) (0 : Int32) dX2_deepestLevel_4 (by decide) ?_
    refine r_ireturn (pc := 5) .int dX2_deepestLevel_5 rfl rfl ?_
    cases hf
    exact hk
def F_X7_position (S : pS) (a0 : Nat) : Option (Int32) := (oF S a0 7).bind fun _ => (oGI S a0 7 2).bind fun x1 => some x1
set_option maxRecDepth 100000 in
set_option maxHeartbeats 4000000 in
theorem C_X7_position {X : pX} {Q : pO → Nat → pF → Prop} (S : pS) (a0 : Nat) (r : Int32) (hf : F_X7_position S a0 = some r) (hk : Q (.inl (some (.int r))) S.1 S.2) : gC X mX7_position [.ref a0] S.1 S.2 Q 0 0 := by
  refine gC_of (by decide) (Nat.le_of_ble_eq_true rfl) rfl ?_
  change gW _ _ _ [some (.ref a0)] _ _ _ _ _ _
  unfold F_X7_position at hf
  obtain ⟨_, _, hf⟩ := obind hf
  refine r_aload_n (pc := 0) dX7_position_0 rfl ?_
  replace hf := obind hf
  obtain ⟨x1, e2, hf⟩ := hf
  refine q_getI (pc := 1) dX7_position_1 gX7_19 e2 ?_
  refine r_ireturn (pc := 4) .int dX7_position_4 rfl rfl ?_
  cases hf
  exact hk
def F_X7_goTo (S : pS) (a0 : Nat) (a1 : Int32) : Option (pS) := (oF S a0 7).bind fun _ => (oPI S a0 7 2 a1).bind fun S1 => some S1
set_option maxRecDepth 100000 in
set_option maxHeartbeats 4000000 in
theorem C_X7_goTo {X : pX} {Q : pO → Nat → pF → Prop} (S : pS) (a0 : Nat) (a1 : Int32) (r : pS) (hf : F_X7_goTo S a0 a1 = some r) (hk : Q (.inl none) r.1 r.2) : gC X mX7_goTo [.ref a0, .int a1] S.1 S.2 Q 0 0 := by
  refine gC_of (by decide) (Nat.le_of_ble_eq_true rfl) rfl ?_
  change gW _ _ _ [some (.ref a0), some (.int a1)] _ _ _ _ _ _
  unfold F_X7_goTo at hf
  obtain ⟨_, _, hf⟩ := obind hf
  refine r_aload_n (pc := 0) dX7_goTo_0 rfl ?_
  refine r_iload_n (pc := 1) dX7_goTo_1 rfl ?_
  replace hf := obind hf
  obtain ⟨S1, e2, hf⟩ := hf
  refine q_putI (pc := 2) dX7_goTo_2 pX7_19 rfl e2 ?_
  refine r_return (pc := 5) dX7_goTo_5 rfl ?_
  cases hf
  exact hk
def F_X2_readSource (S : pS) (a0 : Nat) (a1 : Nat) (a2 : Int32) : Option (Int32 × pS) := (oF S a0 2).bind fun _ => (F_X7_position S a1).bind fun q1 => (F_X7_takeNumber S a1 (3 : Int32)).bind fun q3 => if q3.1 < a2 then ((oGA q3.2 a0 2 1).bind fun x5 => (oSI q3.2 x5 .int a2 q3.1).bind fun S7 => if q3.1 = (-1000000 : Int32) then (some ((0 : Int32), S7)) else (some ((1 : Int32), S7))) else ((F_X7_goTo q3.2 a1 q1).bind fun q9 => some ((0 : Int32), q9))
set_option maxRecDepth 100000 in
set_option maxHeartbeats 4000000 in
theorem C_X2_readSource {X : pX} {Q : pO → Nat → pF → Prop} (S : pS) (a0 : Nat) (a1 : Nat) (a2 : Int32) (r : Int32 × pS) (hf : F_X2_readSource S a0 a1 a2 = some r) (hk : Q (.inl (some (.int r.1))) r.2.1 r.2.2) : gC X mX2_readSource [.ref a0, .ref a1, .int a2] S.1 S.2 Q 0 0 := by
  refine gC_of (by decide) (Nat.le_of_ble_eq_true rfl) rfl ?_
  change gW _ _ _ [some (.ref a0), some (.ref a1), some (.int a2), none, none] _ _ _ _ _ _
  unfold F_X2_readSource at hf
  obtain ⟨_, _, hf⟩ := obind hf
  refine r_aload_n (pc := 0) dX2_readSource_0 rfl ?_
  replace hf := obind hf
  obtain ⟨q1, e2, hf⟩ := hf
  refine q_callV (pc := 1) (v := some (.int q1)) (S' := S) mX7_position 7 [] dX2_readSource_1 kX2_74 fX7_position iX7_position ⟨by decide, by decide⟩ rfl rfl rfl (Nat.le_of_ble_eq_true rfl) (og e2) (mc1 := 0) (ms1 := 0) (mc2 := 0) (ms2 := 0) (by decide) (by decide) (C_X7_position S a1 q1 e2 (qR_mk _ _)) ?_
  change gW _ _ _ _ (.int q1 :: _) _ _ _ _ _
  refine r_istore_n (pc := 4) dX2_readSource_4 (by decide) ?_
  change gW _ _ _ [some (.ref a0), some (.ref a1), some (.int a2), some (.int q1), none] _ _ _ _ _ _
  refine r_aload_n (pc := 5) dX2_readSource_5 rfl ?_
  refine r_iconst (pc := 6) (3 : Int32) dX2_readSource_6 (by decide) ?_
  replace hf := obind hf
  obtain ⟨q3, e4, hf⟩ := hf
  refine q_callV (pc := 7) (v := some (.int q3.1)) (S' := q3.2) mX7_takeNumber 7 [.int (3 : Int32)] dX2_readSource_7 kX2_78 fX7_takeNumber iX7_takeNumber ⟨by decide, by decide⟩ rfl rfl rfl (Nat.le_of_ble_eq_true rfl) (og e4) (mc1 := 0) (ms1 := 0) (mc2 := 0) (ms2 := 0) (by decide) (by decide) (C_X7_takeNumber S a1 (3 : Int32) q3 e4 (qR_mk _ _)) ?_
  change gW _ _ _ _ (.int q3.1 :: _) _ _ _ _ _
  refine r_istore (pc := 10) dX2_readSource_10 (by decide) ?_
  change gW _ _ _ [some (.ref a0), some (.ref a1), some (.int a2), some (.int q1), some (.int q3.1)] _ _ _ _ _ _
  refine r_iload (pc := 12) dX2_readSource_12 rfl ?_
  refine r_iload_n (pc := 14) dX2_readSource_14 rfl ?_
  refine r_icmp_lt (pc := 15) 25 dX2_readSource_15 (by decide) (fun hc => ?_) (fun hc => ?_)
  · rw [if_pos hc] at hf
    refine r_aload_n (pc := 25) dX2_readSource_25 rfl ?_
    replace hf := obind hf
    obtain ⟨x5, e6, hf⟩ := hf
    refine q_getA (pc := 26) dX2_readSource_26 gX2_15 e6 ?_
    refine r_iload_n (pc := 29) dX2_readSource_29 rfl ?_
    refine r_iload (pc := 30) dX2_readSource_30 rfl ?_
    replace hf := obind hf
    obtain ⟨S7, e8, hf⟩ := hf
    refine q_iast (pc := 32) dX2_readSource_32 e8 ?_
    refine r_iload (pc := 33) dX2_readSource_33 rfl ?_
    refine r_ldc (pc := 35) dX2_readSource_35 kX2_42 ?_
    refine r_icmp_eq (pc := 37) 44 dX2_readSource_37 (by decide) (fun hc => ?_) (fun hc => ?_)
    · rw [if_pos hc] at hf
      refine r_iconst (pc := 44) (0 : Int32) dX2_readSource_44 (by decide) ?_
      refine r_ireturn (pc := 45) .boolean dX2_readSource_45 rfl rfl ?_
      cases hf
      exact hk
    · rw [if_neg hc] at hf
      refine r_iconst (pc := 40) (1 : Int32) dX2_readSource_40 (by decide) ?_
      refine r_goto (pc := 41) 45 dX2_readSource_41 (by decide) ?_
      refine r_ireturn (pc := 45) .boolean dX2_readSource_45 rfl rfl ?_
      cases hf
      exact hk
  · rw [if_neg hc] at hf
    refine r_aload_n (pc := 18) dX2_readSource_18 rfl ?_
    refine r_iload_n (pc := 19) dX2_readSource_19 rfl ?_
    replace hf := obind hf
    obtain ⟨q9, e10, hf⟩ := hf
    refine q_callV (pc := 20) (v := none) (S' := q9) mX7_goTo 7 [.int q1] dX2_readSource_20 kX2_81 fX7_goTo iX7_goTo ⟨by decide, by decide⟩ rfl rfl rfl (Nat.le_of_ble_eq_true rfl) (og e10) (mc1 := 0) (ms1 := 0) (mc2 := 0) (ms2 := 0) (by decide) (by decide) (C_X7_goTo q3.2 a1 q1 q9 e10 (qR_mk _ _)) ?_
    refine r_iconst (pc := 23) (0 : Int32) dX2_readSource_23 (by decide) ?_
    refine r_ireturn (pc := 24) .boolean dX2_readSource_24 rfl rfl ?_
    cases hf
    exact hk
def F_X2_readNewItem_136 (S : pS) (t0 : Nat) (t1 : Int32) (t2 : Int32) : Option (Int32 × pS) := (oSI S t0 .boolean t1 t2).bind fun S37 => some ((1 : Int32), S37)
set_option maxRecDepth 100000 in
set_option maxHeartbeats 4000000 in
theorem W_X2_readNewItem_136 {X : pX} {Q : pO → Nat → pF → Prop} (S : pS) (t0 : Nat) (t1 : Int32) (t2 : Int32) (r : Int32 × pS) (hf : F_X2_readNewItem_136 S t0 t1 t2 = some r) (hk : Q (.inl (some (.int r.1))) r.2.1 r.2.2) : gW X mX2_readNewItem 136 [none, none, none, none, none] [.int t2, .int t1, .ref t0] S.1 S.2 Q 0 0 := by
  unfold F_X2_readNewItem_136 at hf
  replace hf := obind hf
  obtain ⟨S37, e38, hf⟩ := hf
  refine q_zast (pc := 136) dX2_readNewItem_136 e38 ?_
  refine r_iconst (pc := 137) (1 : Int32) dX2_readNewItem_137 (by decide) ?_
  refine r_ireturn (pc := 138) .boolean dX2_readNewItem_138 rfl rfl ?_
  cases hf
  exact hk
def F_X2_readNewItem_135 (S : pS) (t0 : Nat) (t1 : Int32) : Option (Int32 × pS) := F_X2_readNewItem_136 S t0 t1 (0 : Int32)
set_option maxRecDepth 100000 in
set_option maxHeartbeats 4000000 in
theorem W_X2_readNewItem_135 {X : pX} {Q : pO → Nat → pF → Prop} (S : pS) (t0 : Nat) (t1 : Int32) (r : Int32 × pS) (hf : F_X2_readNewItem_135 S t0 t1 = some r) (hk : Q (.inl (some (.int r.1))) r.2.1 r.2.2) : gW X mX2_readNewItem 135 [none, none, none, none, none] [.int t1, .ref t0] S.1 S.2 Q 0 0 := by
  unfold F_X2_readNewItem_135 at hf
  refine r_iconst (pc := 135) (0 : Int32) dX2_readNewItem_135 (by decide) ?_
  refine gW.mono (mc := 0) (ms := 0) ?_ (fun _ _ _ q => q) (by decide) (by decide)
  exact gW.weak (by simp [gle]) (W_X2_readNewItem_136 S t0 t1 (0 : Int32) r hf hk)
def F_X2_readNewItem_122 (S : pS) (l1 : Nat) (t0 : Nat) (t1 : Int32) : Option (Int32 × pS) := (F_X7_take S l1 (120 : Int32)).bind fun q35 => if q35.1 = 0 then (F_X2_readNewItem_135 q35.2 t0 t1) else (F_X2_readNewItem_136 q35.2 t0 t1 (1 : Int32))
set_option maxRecDepth 100000 in
set_option maxHeartbeats 4000000 in
theorem W_X2_readNewItem_122 {X : pX} {Q : pO → Nat → pF → Prop} (S : pS) (l1 : Nat) (t0 : Nat) (t1 : Int32) (r : Int32 × pS) (hf : F_X2_readNewItem_122 S l1 t0 t1 = some r) (hk : Q (.inl (some (.int r.1))) r.2.1 r.2.2) : gW X mX2_readNewItem 122 [none, some (.ref l1), none, none, none] [.int t1, .ref t0] S.1 S.2 Q 0 0 := by
  unfold F_X2_readNewItem_122 at hf
  refine r_aload_n (pc := 122) dX2_readNewItem_122 rfl ?_
  refine r_bipush (pc := 123) (120 : Int32) dX2_readNewItem_123 (by decide) ?_
  replace hf := obind hf
  obtain ⟨q35, e36, hf⟩ := hf
  refine q_callV (pc := 125) (v := some (.int q35.1)) (S' := q35.2) mX7_take 7 [.int (120 : Int32)] dX2_readNewItem_125 kX2_52 fX7_take iX7_take ⟨by decide, by decide⟩ rfl rfl rfl (Nat.le_of_ble_eq_true rfl) (og e36) (mc1 := 0) (ms1 := 0) (mc2 := 0) (ms2 := 0) (by decide) (by decide) (C_X7_take S l1 (120 : Int32) q35 e36 (qR_mk _ _)) ?_
  change gW _ _ _ _ (.int q35.1 :: _) _ _ _ _ _
  refine r_if_eq (pc := 128) 135 dX2_readNewItem_128 (by decide) (fun hc => ?_) (fun hc => ?_)
  · rw [if_pos hc] at hf
    refine gW.mono (mc := 0) (ms := 0) ?_ (fun _ _ _ q => q) (by decide) (by decide)
    exact gW.weak (by simp [gle]) (W_X2_readNewItem_135 q35.2 t0 t1 r hf hk)
  · rw [if_neg hc] at hf
    refine r_iconst (pc := 131) (1 : Int32) dX2_readNewItem_131 (by decide) ?_
    refine r_goto (pc := 132) 136 dX2_readNewItem_132 (by decide) ?_
    refine gW.mono (mc := 0) (ms := 0) ?_ (fun _ _ _ q => q) (by decide) (by decide)
    exact gW.weak (by simp [gle]) (W_X2_readNewItem_136 q35.2 t0 t1 (1 : Int32) r hf hk)
def F_X2_readNewItem_94 (S : pS) (l0 : Nat) (l1 : Nat) (l2 : Int32) (l3 : Int32) (l4 : Int32) (t0 : Nat) (t1 : Int32) (t2 : Int32) : Option (Int32 × pS) := (oSI S t0 .int t1 t2).bind fun S27 => (oGA S27 l0 2 5).bind fun x29 => (oAI S27 x29 .int l2).bind fun x31 => if ¬ x31 = (-1000000 : Int32) then ((oGA S27 l0 2 6).bind fun x33 => if ¬ l3 = 0 then (F_X2_readNewItem_122 S27 l1 x33 l2) else (if l4 = 0 then (F_X2_readNewItem_135 S27 x33 l2) else (F_X2_readNewItem_122 S27 l1 x33 l2))) else (some ((0 : Int32), S27))
set_option maxRecDepth 100000 in
set_option maxHeartbeats 4000000 in
theorem W_X2_readNewItem_94 {X : pX} {Q : pO → Nat → pF → Prop} (S : pS) (l0 : Nat) (l1 : Nat) (l2 : Int32) (l3 : Int32) (l4 : Int32) (t0 : Nat) (t1 : Int32) (t2 : Int32) (r : Int32 × pS) (hf : F_X2_readNewItem_94 S l0 l1 l2 l3 l4 t0 t1 t2 = some r) (hk : Q (.inl (some (.int r.1))) r.2.1 r.2.2) : gW X mX2_readNewItem 94 [some (.ref l0), some (.ref l1), some (.int l2), some (.int l3), some (.int l4)] [.int t2, .int t1, .ref t0] S.1 S.2 Q 0 0 := by
  unfold F_X2_readNewItem_94 at hf
  replace hf := obind hf
  obtain ⟨S27, e28, hf⟩ := hf
  refine q_iast (pc := 94) dX2_readNewItem_94 e28 ?_
  refine r_aload_n (pc := 95) dX2_readNewItem_95 rfl ?_
  replace hf := obind hf
  obtain ⟨x29, e30, hf⟩ := hf
  refine q_getA (pc := 96) dX2_readNewItem_96 gX2_28 e30 ?_
  refine r_iload_n (pc := 99) dX2_readNewItem_99 rfl ?_
  replace hf := obind hf
  obtain ⟨x31, e32, hf⟩ := hf
  refine q_iald (pc := 100) dX2_readNewItem_100 e32 ?_
  refine r_ldc (pc := 101) dX2_readNewItem_101 kX2_42 ?_
  refine r_icmp_ne (pc := 103) 108 dX2_readNewItem_103 (by decide) (fun hc => ?_) (fun hc => ?_)
  · rw [if_pos hc] at hf
    refine r_aload_n (pc := 108) dX2_readNewItem_108 rfl ?_
    replace hf := obind hf
    obtain ⟨x33, e34, hf⟩ := hf
    refine q_getA (pc := 109) dX2_readNewItem_109 gX2_31 e34 ?_
    refine r_iload_n (pc := 112) dX2_readNewItem_112 rfl ?_
    refine r_iload_n (pc := 113) dX2_readNewItem_113 rfl ?_
    refine r_if_ne (pc := 114) 122 dX2_readNewItem_114 (by decide) (fun hc => ?_) (fun hc => ?_)
    · rw [if_pos hc] at hf
      refine gW.mono (mc := 0) (ms := 0) ?_ (fun _ _ _ q => q) (by decide) (by decide)
      exact gW.weak (by simp [gle]) (W_X2_readNewItem_122 S27 l1 x33 l2 r hf hk)
    · rw [if_neg hc] at hf
      refine r_iload (pc := 117) dX2_readNewItem_117 rfl ?_
      refine r_if_eq (pc := 119) 135 dX2_readNewItem_119 (by decide) (fun hc => ?_) (fun hc => ?_)
      · rw [if_pos hc] at hf
        refine gW.mono (mc := 0) (ms := 0) ?_ (fun _ _ _ q => q) (by decide) (by decide)
        exact gW.weak (by simp [gle]) (W_X2_readNewItem_135 S27 x33 l2 r hf hk)
      · rw [if_neg hc] at hf
        refine gW.mono (mc := 0) (ms := 0) ?_ (fun _ _ _ q => q) (by decide) (by decide)
        exact gW.weak (by simp [gle]) (W_X2_readNewItem_122 S27 l1 x33 l2 r hf hk)
  · rw [if_neg hc] at hf
    refine r_iconst (pc := 106) (0 : Int32) dX2_readNewItem_106 (by decide) ?_
    refine r_ireturn (pc := 107) .boolean dX2_readNewItem_107 rfl rfl ?_
    cases hf
    exact hk
def F_X2_readNewItem_54 (S : pS) (l0 : Nat) (l1 : Nat) (l2 : Int32) (l3 : Int32) (t0 : Nat) (t1 : Int32) (t2 : Int32) : Option (Int32 × pS) := (oSI S t0 .int t1 t2).bind fun S17 => (oGA S17 l0 2 4).bind fun x19 => (oAI S17 x19 .int l2).bind fun x21 => if ¬ x21 = (-1000000 : Int32) then ((F_X7_take S17 l1 (61 : Int32)).bind fun q23 => (oGA q23.2 l0 2 5).bind fun x25 => if q23.1 = 0 then (F_X2_readNewItem_94 q23.2 l0 l1 l2 l3 q23.1 x25 l2 (0 : Int32)) else ((F_X7_takeValue q23.2 l1).bind fun q39 => F_X2_readNewItem_94 q39.2 l0 l1 l2 l3 q23.1 x25 l2 q39.1)) else (some ((0 : Int32), S17))
set_option maxRecDepth 100000 in
set_option maxHeartbeats 4000000 in
theorem W_X2_readNewItem_54 {X : pX} {Q : pO → Nat → pF → Prop} (S : pS) (l0 : Nat) (l1 : Nat) (l2 : Int32) (l3 : Int32) (t0 : Nat) (t1 : Int32) (t2 : Int32) (r : Int32 × pS) (hf : F_X2_readNewItem_54 S l0 l1 l2 l3 t0 t1 t2 = some r) (hk : Q (.inl (some (.int r.1))) r.2.1 r.2.2) : gW X mX2_readNewItem 54 [some (.ref l0), some (.ref l1), some (.int l2), some (.int l3), none] [.int t2, .int t1, .ref t0] S.1 S.2 Q 0 0 := by
  unfold F_X2_readNewItem_54 at hf
  replace hf := obind hf
  obtain ⟨S17, e18, hf⟩ := hf
  refine q_iast (pc := 54) dX2_readNewItem_54 e18 ?_
  refine r_aload_n (pc := 55) dX2_readNewItem_55 rfl ?_
  replace hf := obind hf
  obtain ⟨x19, e20, hf⟩ := hf
  refine q_getA (pc := 56) dX2_readNewItem_56 gX2_25 e20 ?_
  refine r_iload_n (pc := 59) dX2_readNewItem_59 rfl ?_
  replace hf := obind hf
  obtain ⟨x21, e22, hf⟩ := hf
  refine q_iald (pc := 60) dX2_readNewItem_60 e22 ?_
  refine r_ldc (pc := 61) dX2_readNewItem_61 kX2_42 ?_
  refine r_icmp_ne (pc := 63) 68 dX2_readNewItem_63 (by decide) (fun hc => ?_) (fun hc => ?_)
  · rw [if_pos hc] at hf
    refine r_aload_n (pc := 68) dX2_readNewItem_68 rfl ?_
    refine r_bipush (pc := 69) (61 : Int32) dX2_readNewItem_69 (by decide) ?_
    replace hf := obind hf
    obtain ⟨q23, e24, hf⟩ := hf
    refine q_callV (pc := 71) (v := some (.int q23.1)) (S' := q23.2) mX7_take 7 [.int (61 : Int32)] dX2_readNewItem_71 kX2_52 fX7_take iX7_take ⟨by decide, by decide⟩ rfl rfl rfl (Nat.le_of_ble_eq_true rfl) (og e24) (mc1 := 0) (ms1 := 0) (mc2 := 0) (ms2 := 0) (by decide) (by decide) (C_X7_take S17 l1 (61 : Int32) q23 e24 (qR_mk _ _)) ?_
    change gW _ _ _ _ (.int q23.1 :: _) _ _ _ _ _
    refine r_istore (pc := 74) dX2_readNewItem_74 (by decide) ?_
    change gW _ _ _ [some (.ref l0), some (.ref l1), some (.int l2), some (.int l3), some (.int q23.1)] _ _ _ _ _ _
    refine r_aload_n (pc := 76) dX2_readNewItem_76 rfl ?_
    replace hf := obind hf
    obtain ⟨x25, e26, hf⟩ := hf
    refine q_getA (pc := 77) dX2_readNewItem_77 gX2_28 e26 ?_
    refine r_iload_n (pc := 80) dX2_readNewItem_80 rfl ?_
    refine r_iload (pc := 81) dX2_readNewItem_81 rfl ?_
    refine r_if_eq (pc := 83) 93 dX2_readNewItem_83 (by decide) (fun hc => ?_) (fun hc => ?_)
    · rw [if_pos hc] at hf
      refine r_iconst (pc := 93) (0 : Int32) dX2_readNewItem_93 (by decide) ?_
      refine gW.mono (mc := 0) (ms := 0) ?_ (fun _ _ _ q => q) (by decide) (by decide)
      exact gW.weak (by simp [gle]) (W_X2_readNewItem_94 q23.2 l0 l1 l2 l3 q23.1 x25 l2 (0 : Int32) r hf hk)
    · rw [if_neg hc] at hf
      refine r_aload_n (pc := 86) dX2_readNewItem_86 rfl ?_
      replace hf := obind hf
      obtain ⟨q39, e40, hf⟩ := hf
      refine q_callV (pc := 87) (v := some (.int q39.1)) (S' := q39.2) mX7_takeValue 7 [] dX2_readNewItem_87 kX2_89 fX7_takeValue iX7_takeValue ⟨by decide, by decide⟩ rfl rfl rfl (Nat.le_of_ble_eq_true rfl) (og e40) (mc1 := 0) (ms1 := 0) (mc2 := 0) (ms2 := 0) (by decide) (by decide) (C_X7_takeValue q23.2 l1 q39 e40 (qR_mk _ _)) ?_
      change gW _ _ _ _ (.int q39.1 :: _) _ _ _ _ _
      refine r_goto (pc := 90) 94 dX2_readNewItem_90 (by decide) ?_
      refine gW.mono (mc := 0) (ms := 0) ?_ (fun _ _ _ q => q) (by decide) (by decide)
      exact gW.weak (by simp [gle]) (W_X2_readNewItem_94 q39.2 l0 l1 l2 l3 q23.1 x25 l2 q39.1 r hf hk)
  · rw [if_neg hc] at hf
    refine r_iconst (pc := 66) (0 : Int32) dX2_readNewItem_66 (by decide) ?_
    refine r_ireturn (pc := 67) .boolean dX2_readNewItem_67 rfl rfl ?_
    cases hf
    exact hk
def F_X2_readNewItem (S : pS) (a0 : Nat) (a1 : Nat) (a2 : Int32) : Option (Int32 × pS) := (oF S a0 2).bind fun _ => (oGA S a0 2 3).bind fun x1 => (oGA S a0 2 2).bind fun x3 => (F_X7_takeLetters S a1 x3 (a2 * (10 : Int32))).bind fun q5 => (oSI q5.2 x1 .int a2 q5.1).bind fun S7 => (oGA S7 a0 2 3).bind fun x9 => (oAI S7 x9 .int a2).bind fun x11 => if ¬ x11 = 0 then ((F_X7_take S7 a1 (64 : Int32)).bind fun q13 => (oGA q13.2 a0 2 4).bind fun x15 => if q13.1 = 0 then (F_X2_readNewItem_54 q13.2 a0 a1 a2 q13.1 x15 a2 (-1 : Int32)) else ((F_X7_takeNumber q13.2 a1 (4 : Int32)).bind fun q41 => F_X2_readNewItem_54 q41.2 a0 a1 a2 q13.1 x15 a2 q41.1)) else (some ((0 : Int32), S7))
set_option maxRecDepth 100000 in
set_option maxHeartbeats 4000000 in
theorem C_X2_readNewItem {X : pX} {Q : pO → Nat → pF → Prop} (S : pS) (a0 : Nat) (a1 : Nat) (a2 : Int32) (r : Int32 × pS) (hf : F_X2_readNewItem S a0 a1 a2 = some r) (hk : Q (.inl (some (.int r.1))) r.2.1 r.2.2) : gC X mX2_readNewItem [.ref a0, .ref a1, .int a2] S.1 S.2 Q 0 0 := by
  refine gC_of (by decide) (Nat.le_of_ble_eq_true rfl) rfl ?_
  change gW _ _ _ [some (.ref a0), some (.ref a1), some (.int a2), none, none] _ _ _ _ _ _
  unfold F_X2_readNewItem at hf
  obtain ⟨_, _, hf⟩ := obind hf
  refine r_aload_n (pc := 0) dX2_readNewItem_0 rfl ?_
  replace hf := obind hf
  obtain ⟨x1, e2, hf⟩ := hf
  refine q_getA (pc := 1) dX2_readNewItem_1 gX2_22 e2 ?_
  refine r_iload_n (pc := 4) dX2_readNewItem_4 rfl ?_
  refine r_aload_n (pc := 5) dX2_readNewItem_5 rfl ?_
  refine r_aload_n (pc := 6) dX2_readNewItem_6 rfl ?_
  replace hf := obind hf
  obtain ⟨x3, e4, hf⟩ := hf
  refine q_getA (pc := 7) dX2_readNewItem_7 gX2_18 e4 ?_
  refine r_iload_n (pc := 10) dX2_readNewItem_10 rfl ?_
  refine r_bipush (pc := 11) (10 : Int32) dX2_readNewItem_11 (by decide) ?_
  refine r_imul (pc := 13) dX2_readNewItem_13 ?_
  replace hf := obind hf
  obtain ⟨q5, e6, hf⟩ := hf
  refine q_callV (pc := 14) (v := some (.int q5.1)) (S' := q5.2) mX7_takeLetters 7 [.ref x3, .int (a2 * (10 : Int32))] dX2_readNewItem_14 kX2_85 fX7_takeLetters iX7_takeLetters ⟨by decide, by decide⟩ rfl rfl rfl (Nat.le_of_ble_eq_true rfl) (og e6) (mc1 := 0) (ms1 := 0) (mc2 := 0) (ms2 := 0) (by decide) (by decide) (C_X7_takeLetters S a1 x3 (a2 * (10 : Int32)) q5 e6 (qR_mk _ _)) ?_
  change gW _ _ _ _ (.int q5.1 :: _) _ _ _ _ _
  replace hf := obind hf
  obtain ⟨S7, e8, hf⟩ := hf
  refine q_iast (pc := 17) dX2_readNewItem_17 e8 ?_
  refine r_aload_n (pc := 18) dX2_readNewItem_18 rfl ?_
  replace hf := obind hf
  obtain ⟨x9, e10, hf⟩ := hf
  refine q_getA (pc := 19) dX2_readNewItem_19 gX2_22 e10 ?_
  refine r_iload_n (pc := 22) dX2_readNewItem_22 rfl ?_
  replace hf := obind hf
  obtain ⟨x11, e12, hf⟩ := hf
  refine q_iald (pc := 23) dX2_readNewItem_23 e12 ?_
  refine r_if_ne (pc := 24) 29 dX2_readNewItem_24 (by decide) (fun hc => ?_) (fun hc => ?_)
  · rw [if_pos hc] at hf
    refine r_aload_n (pc := 29) dX2_readNewItem_29 rfl ?_
    refine r_bipush (pc := 30) (64 : Int32) dX2_readNewItem_30 (by decide) ?_
    replace hf := obind hf
    obtain ⟨q13, e14, hf⟩ := hf
    refine q_callV (pc := 32) (v := some (.int q13.1)) (S' := q13.2) mX7_take 7 [.int (64 : Int32)] dX2_readNewItem_32 kX2_52 fX7_take iX7_take ⟨by decide, by decide⟩ rfl rfl rfl (Nat.le_of_ble_eq_true rfl) (og e14) (mc1 := 0) (ms1 := 0) (mc2 := 0) (ms2 := 0) (by decide) (by decide) (C_X7_take S7 a1 (64 : Int32) q13 e14 (qR_mk _ _)) ?_
    change gW _ _ _ _ (.int q13.1 :: _) _ _ _ _ _
    refine r_istore_n (pc := 35) dX2_readNewItem_35 (by decide) ?_
    change gW _ _ _ [some (.ref a0), some (.ref a1), some (.int a2), some (.int q13.1), none] _ _ _ _ _ _
    refine r_aload_n (pc := 36) dX2_readNewItem_36 rfl ?_
    replace hf := obind hf
    obtain ⟨x15, e16, hf⟩ := hf
    refine q_getA (pc := 37) dX2_readNewItem_37 gX2_25 e16 ?_
    refine r_iload_n (pc := 40) dX2_readNewItem_40 rfl ?_
    refine r_iload_n (pc := 41) dX2_readNewItem_41 rfl ?_
    refine r_if_eq (pc := 42) 53 dX2_readNewItem_42 (by decide) (fun hc => ?_) (fun hc => ?_)
    · rw [if_pos hc] at hf
      refine r_iconst (pc := 53) (-1 : Int32) dX2_readNewItem_53 (by decide) ?_
      refine gW.mono (mc := 0) (ms := 0) ?_ (fun _ _ _ q => q) (by decide) (by decide)
      exact gW.weak (by simp [gle]) (W_X2_readNewItem_54 q13.2 a0 a1 a2 q13.1 x15 a2 (-1 : Int32) r hf hk)
    · rw [if_neg hc] at hf
      refine r_aload_n (pc := 45) dX2_readNewItem_45 rfl ?_
      refine r_iconst (pc := 46) (4 : Int32) dX2_readNewItem_46 (by decide) ?_
      replace hf := obind hf
      obtain ⟨q41, e42, hf⟩ := hf
      refine q_callV (pc := 47) (v := some (.int q41.1)) (S' := q41.2) mX7_takeNumber 7 [.int (4 : Int32)] dX2_readNewItem_47 kX2_78 fX7_takeNumber iX7_takeNumber ⟨by decide, by decide⟩ rfl rfl rfl (Nat.le_of_ble_eq_true rfl) (og e42) (mc1 := 0) (ms1 := 0) (mc2 := 0) (ms2 := 0) (by decide) (by decide) (C_X7_takeNumber q13.2 a1 (4 : Int32) q41 e42 (qR_mk _ _)) ?_
      change gW _ _ _ _ (.int q41.1 :: _) _ _ _ _ _
      refine r_goto (pc := 50) 54 dX2_readNewItem_50 (by decide) ?_
      refine gW.mono (mc := 0) (ms := 0) ?_ (fun _ _ _ q => q) (by decide) (by decide)
      exact gW.weak (by simp [gle]) (W_X2_readNewItem_54 q41.2 a0 a1 a2 q13.1 x15 a2 q41.1 r hf hk)
  · rw [if_neg hc] at hf
    refine r_iconst (pc := 27) (0 : Int32) dX2_readNewItem_27 (by decide) ?_
    refine r_ireturn (pc := 28) .boolean dX2_readNewItem_28 rfl rfl ?_
    cases hf
    exact hk
abbrev L_X2_readEntry_9 (l0 : Nat) (l1 : Nat) (l2 : Int32) (l3 : Int32) : Int32 × pS → List (Option Value) := fun a => [some (.ref l0), some (.ref l1), some (.int l2), some (.int l3), some (.int a.1)]
abbrev s_X2_readEntry_9 (l0 : Nat) (l1 : Nat) (l2 : Int32) (l3 : Int32) : Int32 × pS → pS := fun a => a.2
abbrev K_X2_readEntry_9 (X : pX) (Q : pO → Nat → pF → Prop) (mc ms : Nat) (l0 : Nat) (l1 : Nat) (l2 : Int32) (l3 : Int32) : Int32 × pS → Prop := (fun b => gW X mX2_readEntry 30 [some (.ref l0), some (.ref l1), some (.int l2), some (.int l3), some (.int b.1)] [] b.2.1 b.2.2 Q mc ms)
def F_X2_readEntry_9 (l0 : Nat) (l1 : Nat) (l2 : Int32) (l3 : Int32) : Int32 × pS → Option ((Int32 × pS) ⊕ (Int32 × pS)) := fun a => if l3 ≤ a.1 then (some (.inr (a.1, a.2))) else ((F_X7_take a.2 l1 (46 : Int32)).bind fun q3 => if q3.1 = 0 then (some (.inr (a.1, q3.2))) else (some (.inl (a.1 + (1 : Int32), q3.2))))
set_option maxRecDepth 100000 in
set_option maxHeartbeats 4000000 in
theorem W_X2_readEntry_9 {X : pX} {Q : pO → Nat → pF → Prop} {mc ms : Nat} (l0 : Nat) (l1 : Nat) (l2 : Int32) (l3 : Int32) : ∀ (a : Int32 × pS) (r : (Int32 × pS) ⊕ (Int32 × pS)), F_X2_readEntry_9 l0 l1 l2 l3 a = some r → Sum.elim (fun a' => gW X mX2_readEntry 9 (L_X2_readEntry_9 l0 l1 l2 l3 a') [] (s_X2_readEntry_9 l0 l1 l2 l3 a').1 (s_X2_readEntry_9 l0 l1 l2 l3 a').2 Q mc ms) (K_X2_readEntry_9 X Q mc ms l0 l1 l2 l3) r → gW X mX2_readEntry 9 (L_X2_readEntry_9 l0 l1 l2 l3 a) [] (s_X2_readEntry_9 l0 l1 l2 l3 a).1 (s_X2_readEntry_9 l0 l1 l2 l3 a).2 Q mc ms := by
  intro a r hf hk
  obtain ⟨l4, S⟩ := a
  unfold F_X2_readEntry_9 at hf
  try dsimp only at hf
  change gW _ _ _ [some (.ref l0), some (.ref l1), some (.int l2), some (.int l3), some (.int l4)] _ S.1 S.2 _ _ _
  refine r_iload (pc := 9) dX2_readEntry_9 rfl ?_
  refine r_iload_n (pc := 11) dX2_readEntry_11 rfl ?_
  refine r_icmp_ge (pc := 12) 30 dX2_readEntry_12 (by decide) (fun hc => ?_) (fun hc => ?_)
  · rw [if_pos hc] at hf
    cases hf
    exact gW.weak (by simp [gle]) hk
  · rw [if_neg hc] at hf
    refine r_aload_n (pc := 15) dX2_readEntry_15 rfl ?_
    refine r_bipush (pc := 16) (46 : Int32) dX2_readEntry_16 (by decide) ?_
    replace hf := obind hf
    obtain ⟨q3, e4, hf⟩ := hf
    refine q_callV (pc := 18) (v := some (.int q3.1)) (S' := q3.2) mX7_take 7 [.int (46 : Int32)] dX2_readEntry_18 kX2_52 fX7_take iX7_take ⟨by decide, by decide⟩ rfl rfl rfl (Nat.le_of_ble_eq_true rfl) (og e4) (mc1 := 0) (ms1 := 0) (mc2 := mc) (ms2 := ms) (by omega) (by omega) (C_X7_take S l1 (46 : Int32) q3 e4 (qR_mk _ _)) ?_
    change gW _ _ _ _ (.int q3.1 :: _) _ _ _ _ _
    refine r_if_eq (pc := 21) 30 dX2_readEntry_21 (by decide) (fun hc => ?_) (fun hc => ?_)
    · rw [if_pos hc] at hf
      cases hf
      exact gW.weak (by simp [gle]) hk
    · rw [if_neg hc] at hf
      refine r_iinc (pc := 24) dX2_readEntry_24 rfl (by decide) ?_
      change gW _ _ _ [some (.ref l0), some (.ref l1), some (.int l2), some (.int l3), some (.int (l4 + (1 : Int32)))] _ _ _ _ _ _
      refine r_goto (pc := 27) 9 dX2_readEntry_27 (by decide) ?_
      cases hf
      exact gW.weak (by simp [gle]) hk
def F_X2_readEntry_58 (S : pS) (l0 : Nat) (l1 : Nat) (l2 : Int32) : Option (Int32 × pS) := (oGA S l0 2 1).bind fun x11 => (oSI S x11 .int l2 (-1000000 : Int32)).bind fun S13 => (F_X2_readNewItem S13 l0 l1 l2).bind fun q15 => (oZ q15.1).bind fun x17 => some (x17, q15.2)
set_option maxRecDepth 100000 in
set_option maxHeartbeats 4000000 in
theorem W_X2_readEntry_58 {X : pX} {Q : pO → Nat → pF → Prop} (S : pS) (l0 : Nat) (l1 : Nat) (l2 : Int32) (r : Int32 × pS) (hf : F_X2_readEntry_58 S l0 l1 l2 = some r) (hk : Q (.inl (some (.int r.1))) r.2.1 r.2.2) : gW X mX2_readEntry 58 [some (.ref l0), some (.ref l1), some (.int l2), none, none] [] S.1 S.2 Q 0 0 := by
  unfold F_X2_readEntry_58 at hf
  refine r_aload_n (pc := 58) dX2_readEntry_58 rfl ?_
  replace hf := obind hf
  obtain ⟨x11, e12, hf⟩ := hf
  refine q_getA (pc := 59) dX2_readEntry_59 gX2_15 e12 ?_
  refine r_iload_n (pc := 62) dX2_readEntry_62 rfl ?_
  refine r_ldc (pc := 63) dX2_readEntry_63 kX2_42 ?_
  replace hf := obind hf
  obtain ⟨S13, e14, hf⟩ := hf
  refine q_iast (pc := 65) dX2_readEntry_65 e14 ?_
  refine r_aload_n (pc := 66) dX2_readEntry_66 rfl ?_
  refine r_aload_n (pc := 67) dX2_readEntry_67 rfl ?_
  refine r_iload_n (pc := 68) dX2_readEntry_68 rfl ?_
  replace hf := obind hf
  obtain ⟨q15, e16, hf⟩ := hf
  refine q_callV (pc := 69) (v := some (.int q15.1)) (S' := q15.2) mX2_readNewItem 2 [.ref l1, .int l2] dX2_readEntry_69 kX2_67 fX2_readNewItem iX2_readNewItem ⟨by decide, by decide⟩ rfl rfl rfl (Nat.le_of_ble_eq_true rfl) (og e16) (mc1 := 0) (ms1 := 0) (mc2 := 0) (ms2 := 0) (by decide) (by decide) (C_X2_readNewItem S13 l0 l1 l2 q15 e16 (qR_mk _ _)) ?_
  change gW _ _ _ _ (.int q15.1 :: _) _ _ _ _ _
  replace hf := obind hf
  obtain ⟨x17, e18, hf⟩ := hf
  obtain ⟨e18a, e18b⟩ := oZ_some e18
  rw [e18a] at hf
  refine r_ireturn (pc := 72) .boolean dX2_readEntry_72 rfl e18b ?_
  cases hf
  exact hk
def F_X2_readEntry_30 (S : pS) (l0 : Nat) (l1 : Nat) (l2 : Int32) (l4 : Int32) : Option (Int32 × pS) := (oGA S l0 2 0).bind fun x7 => (oSI S x7 .int l2 l4).bind fun S9 => if l2 ≤ 0 then (F_X2_readEntry_58 S9 l0 l1 l2) else ((F_X7_take S9 l1 (42 : Int32)).bind fun q19 => if q19.1 = 0 then (F_X2_readEntry_58 q19.2 l0 l1 l2) else ((F_X2_readSource q19.2 l0 l1 l2).bind fun q21 => (oZ q21.1).bind fun x23 => some (x23, q21.2)))
set_option maxRecDepth 100000 in
set_option maxHeartbeats 4000000 in
theorem W_X2_readEntry_30 {X : pX} {Q : pO → Nat → pF → Prop} (S : pS) (l0 : Nat) (l1 : Nat) (l2 : Int32) (l4 : Int32) (r : Int32 × pS) (hf : F_X2_readEntry_30 S l0 l1 l2 l4 = some r) (hk : Q (.inl (some (.int r.1))) r.2.1 r.2.2) : gW X mX2_readEntry 30 [some (.ref l0), some (.ref l1), some (.int l2), none, some (.int l4)] [] S.1 S.2 Q 0 0 := by
  unfold F_X2_readEntry_30 at hf
  refine r_aload_n (pc := 30) dX2_readEntry_30 rfl ?_
  replace hf := obind hf
  obtain ⟨x7, e8, hf⟩ := hf
  refine q_getA (pc := 31) dX2_readEntry_31 gX2_9 e8 ?_
  refine r_iload_n (pc := 34) dX2_readEntry_34 rfl ?_
  refine r_iload (pc := 35) dX2_readEntry_35 rfl ?_
  replace hf := obind hf
  obtain ⟨S9, e10, hf⟩ := hf
  refine q_iast (pc := 37) dX2_readEntry_37 e10 ?_
  refine r_iload_n (pc := 38) dX2_readEntry_38 rfl ?_
  refine r_if_le (pc := 39) 58 dX2_readEntry_39 (by decide) (fun hc => ?_) (fun hc => ?_)
  · rw [if_pos hc] at hf
    refine gW.mono (mc := 0) (ms := 0) ?_ (fun _ _ _ q => q) (by decide) (by decide)
    exact gW.weak (by simp [gle]) (W_X2_readEntry_58 S9 l0 l1 l2 r hf hk)
  · rw [if_neg hc] at hf
    refine r_aload_n (pc := 42) dX2_readEntry_42 rfl ?_
    refine r_bipush (pc := 43) (42 : Int32) dX2_readEntry_43 (by decide) ?_
    replace hf := obind hf
    obtain ⟨q19, e20, hf⟩ := hf
    refine q_callV (pc := 45) (v := some (.int q19.1)) (S' := q19.2) mX7_take 7 [.int (42 : Int32)] dX2_readEntry_45 kX2_52 fX7_take iX7_take ⟨by decide, by decide⟩ rfl rfl rfl (Nat.le_of_ble_eq_true rfl) (og e20) (mc1 := 0) (ms1 := 0) (mc2 := 0) (ms2 := 0) (by decide) (by decide) (C_X7_take S9 l1 (42 : Int32) q19 e20 (qR_mk _ _)) ?_
    change gW _ _ _ _ (.int q19.1 :: _) _ _ _ _ _
    refine r_if_eq (pc := 48) 58 dX2_readEntry_48 (by decide) (fun hc => ?_) (fun hc => ?_)
    · rw [if_pos hc] at hf
      refine gW.mono (mc := 0) (ms := 0) ?_ (fun _ _ _ q => q) (by decide) (by decide)
      exact gW.weak (by simp [gle]) (W_X2_readEntry_58 q19.2 l0 l1 l2 r hf hk)
    · rw [if_neg hc] at hf
      refine r_aload_n (pc := 51) dX2_readEntry_51 rfl ?_
      refine r_aload_n (pc := 52) dX2_readEntry_52 rfl ?_
      refine r_iload_n (pc := 53) dX2_readEntry_53 rfl ?_
      replace hf := obind hf
      obtain ⟨q21, e22, hf⟩ := hf
      refine q_callV (pc := 54) (v := some (.int q21.1)) (S' := q21.2) mX2_readSource 2 [.ref l1, .int l2] dX2_readEntry_54 kX2_64 fX2_readSource iX2_readSource ⟨by decide, by decide⟩ rfl rfl rfl (Nat.le_of_ble_eq_true rfl) (og e22) (mc1 := 0) (ms1 := 0) (mc2 := 0) (ms2 := 0) (by decide) (by decide) (C_X2_readSource q19.2 l0 l1 l2 q21 e22 (qR_mk _ _)) ?_
      change gW _ _ _ _ (.int q21.1 :: _) _ _ _ _ _
      replace hf := obind hf
      obtain ⟨x23, e24, hf⟩ := hf
      obtain ⟨e24a, e24b⟩ := oZ_some e24
      rw [e24a] at hf
      refine r_ireturn (pc := 57) .boolean dX2_readEntry_57 rfl e24b ?_
      cases hf
      exact hk
def F_X2_readEntry (S : pS) (a0 : Nat) (a1 : Nat) (a2 : Int32) : Option (Int32 × pS) := (oF S a0 2).bind fun _ => (F_X2_deepestLevel S a0 a2).bind fun q1 => (iter (F_X2_readEntry_9 a0 a1 a2 q1) fu ((0 : Int32), S)).bind fun r5 => F_X2_readEntry_30 r5.2 a0 a1 a2 r5.1
set_option maxRecDepth 100000 in
set_option maxHeartbeats 4000000 in
theorem C_X2_readEntry {X : pX} {Q : pO → Nat → pF → Prop} (S : pS) (a0 : Nat) (a1 : Nat) (a2 : Int32) (r : Int32 × pS) (hf : F_X2_readEntry S a0 a1 a2 = some r) (hk : Q (.inl (some (.int r.1))) r.2.1 r.2.2) : gC X mX2_readEntry [.ref a0, .ref a1, .int a2] S.1 S.2 Q 0 0 := by
  refine gC_of (by decide) (Nat.le_of_ble_eq_true rfl) rfl ?_
  change gW _ _ _ [some (.ref a0), some (.ref a1), some (.int a2), none, none] _ _ _ _ _ _
  unfold F_X2_readEntry at hf
  obtain ⟨_, _, hf⟩ := obind hf
  refine r_aload_n (pc := 0) dX2_readEntry_0 rfl ?_
  refine r_iload_n (pc := 1) dX2_readEntry_1 rfl ?_
  replace hf := obind hf
  obtain ⟨q1, e2, hf⟩ := hf
  refine q_callV (pc := 2) (v := some (.int q1)) (S' := S) mX2_deepestLevel 2 [.int a2] dX2_readEntry_2 kX2_60 fX2_deepestLevel iX2_deepestLevel ⟨by decide, by decide⟩ rfl rfl rfl (Nat.le_of_ble_eq_true rfl) (og e2) (mc1 := 0) (ms1 := 0) (mc2 := 0) (ms2 := 0) (by decide) (by decide) (C_X2_deepestLevel S a0 a2 q1 e2 (qR_mk _ _)) ?_
  change gW _ _ _ _ (.int q1 :: _) _ _ _ _ _
  refine r_istore_n (pc := 5) dX2_readEntry_5 (by decide) ?_
  change gW _ _ _ [some (.ref a0), some (.ref a1), some (.int a2), some (.int q1), none] _ _ _ _ _ _
  refine r_iconst (pc := 6) (0 : Int32) dX2_readEntry_6 (by decide) ?_
  refine r_istore (pc := 7) dX2_readEntry_7 (by decide) ?_
  change gW _ _ _ [some (.ref a0), some (.ref a1), some (.int a2), some (.int q1), some (.int (0 : Int32))] _ _ _ _ _ _
  replace hf := obind hf
  obtain ⟨r5, e6, hf⟩ := hf
  refine gW.weak (ls' := [some (.ref a0), some (.ref a1), some (.int a2), some (.int q1), some (.int (0 : Int32))]) (by simp [gle]) ?_
  refine g_iter (L := L_X2_readEntry_9 a0 a1 a2 q1) (s := s_X2_readEntry_9 a0 a1 a2 q1) (K := K_X2_readEntry_9 X Q _ _ a0 a1 a2 q1) (W_X2_readEntry_9 a0 a1 a2 q1) fu ((0 : Int32), S) _ e6 ?_
  show gW _ _ 30 [some (.ref a0), some (.ref a1), some (.int a2), some (.int q1), some (.int r5.1)] [] r5.2.1 r5.2.2 _ _ _
  refine gW.mono (mc := 0) (ms := 0) ?_ (fun _ _ _ q => q) (by decide) (by decide)
  exact gW.weak (by simp [gle]) (W_X2_readEntry_30 r5.2 a0 a1 a2 r5.1 r hf hk)
abbrev L_X2_read_13 (l0 : Nat) (l1 : Nat) : Int32 × Int32 × pS → List (Option Value) := fun a => [some (.ref l0), some (.ref l1), some (.int a.1), some (.int a.2.1)]
abbrev s_X2_read_13 (l0 : Nat) (l1 : Nat) : Int32 × Int32 × pS → pS := fun a => a.2.2
abbrev K_X2_read_13 (X : pX) (Q : pO → Nat → pF → Prop) (mc ms : Nat) (l0 : Nat) (l1 : Nat) : (pS) ⊕ (Int32 × pS) → Prop := (Sum.elim (fun b => gW X mX2_read 32 [some (.ref l0), some (.ref l1), none, none] [] b.1 b.2 Q mc ms) (fun b => gW X mX2_read 54 [some (.ref l0), some (.ref l1), some (.int b.1), none] [] b.2.1 b.2.2 Q mc ms))
def F_X2_read_13 (l0 : Nat) (l1 : Nat) : Int32 × Int32 × pS → Option ((Int32 × Int32 × pS) ⊕ ((pS) ⊕ (Int32 × pS))) := fun a => if a.1 = 0 then (some (.inr (.inr (a.1, a.2.2)))) else (if (40 : Int32) ≤ a.2.1 then (some (.inr (.inr (a.1, a.2.2)))) else ((F_X2_readEntry a.2.2 l0 l1 a.2.1).bind fun q5 => if ¬ q5.1 = 0 then ((oPI q5.2 l0 2 8 (a.2.1 + (1 : Int32))).bind fun S7 => (F_X7_take S7 l1 (59 : Int32)).bind fun q9 => some (.inl (q9.1, a.2.1 + (1 : Int32), q9.2))) else (some (.inr (.inl q5.2)))))
set_option maxRecDepth 100000 in
set_option maxHeartbeats 4000000 in
theorem W_X2_read_13 {X : pX} {Q : pO → Nat → pF → Prop} {mc ms : Nat} (l0 : Nat) (l1 : Nat) : ∀ (a : Int32 × Int32 × pS) (r : (Int32 × Int32 × pS) ⊕ ((pS) ⊕ (Int32 × pS))), F_X2_read_13 l0 l1 a = some r → Sum.elim (fun a' => gW X mX2_read 13 (L_X2_read_13 l0 l1 a') [] (s_X2_read_13 l0 l1 a').1 (s_X2_read_13 l0 l1 a').2 Q mc ms) (K_X2_read_13 X Q mc ms l0 l1) r → gW X mX2_read 13 (L_X2_read_13 l0 l1 a) [] (s_X2_read_13 l0 l1 a).1 (s_X2_read_13 l0 l1 a).2 Q mc ms := by
  intro a r hf hk
  obtain ⟨l2, l3, S⟩ := a
  unfold F_X2_read_13 at hf
  try dsimp only at hf
  change gW _ _ _ [some (.ref l0), some (.ref l1), some (.int l2), some (.int l3)] _ S.1 S.2 _ _ _
  refine r_iload_n (pc := 13) dX2_read_13 rfl ?_
  refine r_if_eq (pc := 14) 54 dX2_read_14 (by decide) (fun hc => ?_) (fun hc => ?_)
  · rw [if_pos hc] at hf
    cases hf
    exact gW.weak (by simp [gle]) hk
  · rw [if_neg hc] at hf
    refine r_iload_n (pc := 17) dX2_read_17 rfl ?_
    refine r_bipush (pc := 18) (40 : Int32) dX2_read_18 (by decide) ?_
    refine r_icmp_ge (pc := 20) 54 dX2_read_20 (by decide) (fun hc => ?_) (fun hc => ?_)
    · rw [if_pos hc] at hf
      cases hf
      exact gW.weak (by simp [gle]) hk
    · rw [if_neg hc] at hf
      refine r_aload_n (pc := 23) dX2_read_23 rfl ?_
      refine r_aload_n (pc := 24) dX2_read_24 rfl ?_
      refine r_iload_n (pc := 25) dX2_read_25 rfl ?_
      replace hf := obind hf
      obtain ⟨q5, e6, hf⟩ := hf
      refine q_callV (pc := 26) (v := some (.int q5.1)) (S' := q5.2) mX2_readEntry 2 [.ref l1, .int l3] dX2_read_26 kX2_48 fX2_readEntry iX2_readEntry ⟨by decide, by decide⟩ rfl rfl rfl (Nat.le_of_ble_eq_true rfl) (og e6) (mc1 := 0) (ms1 := 0) (mc2 := mc) (ms2 := ms) (by omega) (by omega) (C_X2_readEntry S l0 l1 l3 q5 e6 (qR_mk _ _)) ?_
      change gW _ _ _ _ (.int q5.1 :: _) _ _ _ _ _
      refine r_if_ne (pc := 29) 34 dX2_read_29 (by decide) (fun hc => ?_) (fun hc => ?_)
      · rw [if_pos hc] at hf
        refine r_aload_n (pc := 34) dX2_read_34 rfl ?_
        refine r_iload_n (pc := 35) dX2_read_35 rfl ?_
        refine r_iconst (pc := 36) (1 : Int32) dX2_read_36 (by decide) ?_
        refine r_iadd (pc := 37) dX2_read_37 ?_
        replace hf := obind hf
        obtain ⟨S7, e8, hf⟩ := hf
        refine q_putI (pc := 38) dX2_read_38 pX2_38 rfl e8 ?_
        refine r_aload_n (pc := 41) dX2_read_41 rfl ?_
        refine r_bipush (pc := 42) (59 : Int32) dX2_read_42 (by decide) ?_
        replace hf := obind hf
        obtain ⟨q9, e10, hf⟩ := hf
        refine q_callV (pc := 44) (v := some (.int q9.1)) (S' := q9.2) mX7_take 7 [.int (59 : Int32)] dX2_read_44 kX2_52 fX7_take iX7_take ⟨by decide, by decide⟩ rfl rfl rfl (Nat.le_of_ble_eq_true rfl) (og e10) (mc1 := 0) (ms1 := 0) (mc2 := mc) (ms2 := ms) (by omega) (by omega) (C_X7_take S7 l1 (59 : Int32) q9 e10 (qR_mk _ _)) ?_
        change gW _ _ _ _ (.int q9.1 :: _) _ _ _ _ _
        refine r_istore_n (pc := 47) dX2_read_47 (by decide) ?_
        change gW _ _ _ [some (.ref l0), some (.ref l1), some (.int q9.1), some (.int l3)] _ _ _ _ _ _
        refine r_iinc (pc := 48) dX2_read_48 rfl (by decide) ?_
        change gW _ _ _ [some (.ref l0), some (.ref l1), some (.int q9.1), some (.int (l3 + (1 : Int32)))] _ _ _ _ _ _
        refine r_goto (pc := 51) 13 dX2_read_51 (by decide) ?_
        cases hf
        exact gW.weak (by simp [gle]) hk
      · rw [if_neg hc] at hf
        cases hf
        exact gW.weak (by simp [gle]) hk
def F_X2_read_54 (S : pS) (l1 : Nat) (l2 : Int32) : Option (Int32 × pS) := (F_X7_isAtEnd S l1).bind fun q14 => if q14 = 0 then (some ((0 : Int32), S)) else (if ¬ l2 = 0 then (some ((0 : Int32), S)) else (some ((1 : Int32), S)))
set_option maxRecDepth 100000 in
set_option maxHeartbeats 4000000 in
theorem W_X2_read_54 {X : pX} {Q : pO → Nat → pF → Prop} (S : pS) (l1 : Nat) (l2 : Int32) (r : Int32 × pS) (hf : F_X2_read_54 S l1 l2 = some r) (hk : Q (.inl (some (.int r.1))) r.2.1 r.2.2) : gW X mX2_read 54 [none, some (.ref l1), some (.int l2), none] [] S.1 S.2 Q 0 0 := by
  unfold F_X2_read_54 at hf
  refine r_aload_n (pc := 54) dX2_read_54 rfl ?_
  replace hf := obind hf
  obtain ⟨q14, e15, hf⟩ := hf
  refine q_callV (pc := 55) (v := some (.int q14)) (S' := S) mX7_isAtEnd 7 [] dX2_read_55 kX2_56 fX7_isAtEnd iX7_isAtEnd ⟨by decide, by decide⟩ rfl rfl rfl (Nat.le_of_ble_eq_true rfl) (og e15) (mc1 := 0) (ms1 := 0) (mc2 := 0) (ms2 := 0) (by decide) (by decide) (C_X7_isAtEnd S l1 q14 e15 (qR_mk _ _)) ?_
  change gW _ _ _ _ (.int q14 :: _) _ _ _ _ _
  refine r_if_eq (pc := 58) 69 dX2_read_58 (by decide) (fun hc => ?_) (fun hc => ?_)
  · rw [if_pos hc] at hf
    refine r_iconst (pc := 69) (0 : Int32) dX2_read_69 (by decide) ?_
    refine r_ireturn (pc := 70) .boolean dX2_read_70 rfl rfl ?_
    cases hf
    exact hk
  · rw [if_neg hc] at hf
    refine r_iload_n (pc := 61) dX2_read_61 rfl ?_
    refine r_if_ne (pc := 62) 69 dX2_read_62 (by decide) (fun hc => ?_) (fun hc => ?_)
    · rw [if_pos hc] at hf
      refine r_iconst (pc := 69) (0 : Int32) dX2_read_69 (by decide) ?_
      refine r_ireturn (pc := 70) .boolean dX2_read_70 rfl rfl ?_
      cases hf
      exact hk
    · rw [if_neg hc] at hf
      refine r_iconst (pc := 65) (1 : Int32) dX2_read_65 (by decide) ?_
      refine r_goto (pc := 66) 70 dX2_read_66 (by decide) ?_
      refine r_ireturn (pc := 70) .boolean dX2_read_70 rfl rfl ?_
      cases hf
      exact hk
def F_X2_read (S : pS) (a0 : Nat) (a1 : Nat) : Option (Int32 × pS) := (oF S a0 2).bind fun _ => (F_X7_start S a1).bind fun q1 => (oPI q1 a0 2 8 (0 : Int32)).bind fun S3 => (iter (F_X2_read_13 a0 a1) fu ((1 : Int32), (0 : Int32), S3)).bind fun r11 => Sum.elim (fun q13 => some ((0 : Int32), q13)) (fun q13 => F_X2_read_54 q13.2 a1 q13.1) r11
set_option maxRecDepth 100000 in
set_option maxHeartbeats 4000000 in
theorem C_X2_read {X : pX} {Q : pO → Nat → pF → Prop} (S : pS) (a0 : Nat) (a1 : Nat) (r : Int32 × pS) (hf : F_X2_read S a0 a1 = some r) (hk : Q (.inl (some (.int r.1))) r.2.1 r.2.2) : gC X mX2_read [.ref a0, .ref a1] S.1 S.2 Q 0 0 := by
  refine gC_of (by decide) (Nat.le_of_ble_eq_true rfl) rfl ?_
  change gW _ _ _ [some (.ref a0), some (.ref a1), none, none] _ _ _ _ _ _
  unfold F_X2_read at hf
  obtain ⟨_, _, hf⟩ := obind hf
  refine r_aload_n (pc := 0) dX2_read_0 rfl ?_
  replace hf := obind hf
  obtain ⟨q1, e2, hf⟩ := hf
  refine q_callV (pc := 1) (v := none) (S' := q1) mX7_start 7 [] dX2_read_1 kX2_43 fX7_start iX7_start ⟨by decide, by decide⟩ rfl rfl rfl (Nat.le_of_ble_eq_true rfl) (og e2) (mc1 := 0) (ms1 := 0) (mc2 := 0) (ms2 := 0) (by decide) (by decide) (C_X7_start S a1 q1 e2 (qR_mk _ _)) ?_
  refine r_aload_n (pc := 4) dX2_read_4 rfl ?_
  refine r_iconst (pc := 5) (0 : Int32) dX2_read_5 (by decide) ?_
  replace hf := obind hf
  obtain ⟨S3, e4, hf⟩ := hf
  refine q_putI (pc := 6) dX2_read_6 pX2_38 rfl e4 ?_
  refine r_iconst (pc := 9) (1 : Int32) dX2_read_9 (by decide) ?_
  refine r_istore_n (pc := 10) dX2_read_10 (by decide) ?_
  change gW _ _ _ [some (.ref a0), some (.ref a1), some (.int (1 : Int32)), none] _ _ _ _ _ _
  refine r_iconst (pc := 11) (0 : Int32) dX2_read_11 (by decide) ?_
  refine r_istore_n (pc := 12) dX2_read_12 (by decide) ?_
  change gW _ _ _ [some (.ref a0), some (.ref a1), some (.int (1 : Int32)), some (.int (0 : Int32))] _ _ _ _ _ _
  replace hf := obind hf
  obtain ⟨r11, e12, hf⟩ := hf
  refine gW.weak (ls' := [some (.ref a0), some (.ref a1), some (.int (1 : Int32)), some (.int (0 : Int32))]) (by simp [gle]) ?_
  refine g_iter (L := L_X2_read_13 a0 a1) (s := s_X2_read_13 a0 a1) (K := K_X2_read_13 X Q _ _ a0 a1) (W_X2_read_13 a0 a1) fu ((1 : Int32), (0 : Int32), S3) _ e12 ?_
  rcases r11 with q13 | q13
  · simp only [Sum.elim_inl, Sum.elim_inr] at hf
    show gW _ _ 32 [some (.ref a0), some (.ref a1), none, none] [] q13.1 q13.2 _ _ _
    refine r_iconst (pc := 32) (0 : Int32) dX2_read_32 (by decide) ?_
    refine r_ireturn (pc := 33) .boolean dX2_read_33 rfl rfl ?_
    cases hf
    exact hk
  · simp only [Sum.elim_inl, Sum.elim_inr] at hf
    show gW _ _ 54 [some (.ref a0), some (.ref a1), some (.int q13.1), none] [] q13.2.1 q13.2.2 _ _ _
    refine gW.mono (mc := 0) (ms := 0) ?_ (fun _ _ _ q => q) (by decide) (by decide)
    exact gW.weak (by simp [gle]) (W_X2_read_54 q13.2 a1 q13.1 r hf hk)
abbrev L_X2_parentFor_4 (l0 : Nat) (l1 : Int32) (l2 : Int32) (S : pS) : Int32 → List (Option Value) := fun a => [some (.ref l0), some (.int l1), some (.int l2), some (.int a)]
abbrev s_X2_parentFor_4 (l0 : Nat) (l1 : Int32) (l2 : Int32) (S : pS) : Int32 → pS := fun a => S
abbrev K_X2_parentFor_4 (X : pX) (Q : pO → Nat → pF → Prop) (mc ms : Nat) (l0 : Nat) (l1 : Int32) (l2 : Int32) (S : pS) : (Int32) ⊕ (Unit) → Prop := (Sum.elim (fun b => gW X mX2_parentFor 25 [some (.ref l0), some (.int l1), some (.int l2), some (.int b)] [] S.1 S.2 Q mc ms) (fun b => gW X mX2_parentFor 38 [some (.ref l0), some (.int l1), some (.int l2), none] [] S.1 S.2 Q mc ms))
def F_X2_parentFor_4 (l0 : Nat) (l1 : Int32) (l2 : Int32) (S : pS) : Int32 → Option ((Int32) ⊕ ((Int32) ⊕ (Unit))) := fun a => if a < 0 then (some (.inr (.inr ()))) else ((oGA S l0 2 0).bind fun x1 => (oAI S x1 .int a).bind fun x3 => (oGA S l0 2 0).bind fun x5 => (oAI S x5 .int l1).bind fun x7 => if ¬ x3 = (x7 - (1 : Int32)) then (some (.inl (a + (-1 : Int32)))) else (some (.inr (.inl a))))
set_option maxRecDepth 100000 in
set_option maxHeartbeats 4000000 in
theorem W_X2_parentFor_4 {X : pX} {Q : pO → Nat → pF → Prop} {mc ms : Nat} (l0 : Nat) (l1 : Int32) (l2 : Int32) (S : pS) : ∀ (a : Int32) (r : (Int32) ⊕ ((Int32) ⊕ (Unit))), F_X2_parentFor_4 l0 l1 l2 S a = some r → Sum.elim (fun a' => gW X mX2_parentFor 4 (L_X2_parentFor_4 l0 l1 l2 S a') [] (s_X2_parentFor_4 l0 l1 l2 S a').1 (s_X2_parentFor_4 l0 l1 l2 S a').2 Q mc ms) (K_X2_parentFor_4 X Q mc ms l0 l1 l2 S) r → gW X mX2_parentFor 4 (L_X2_parentFor_4 l0 l1 l2 S a) [] (s_X2_parentFor_4 l0 l1 l2 S a).1 (s_X2_parentFor_4 l0 l1 l2 S a).2 Q mc ms := by
  intro l3 r hf hk
  unfold F_X2_parentFor_4 at hf
  try dsimp only at hf
  change gW _ _ _ [some (.ref l0), some (.int l1), some (.int l2), some (.int l3)] _ S.1 S.2 _ _ _
  refine r_iload_n (pc := 4) dX2_parentFor_4 rfl ?_
  refine r_if_lt (pc := 5) 38 dX2_parentFor_5 (by decide) (fun hc => ?_) (fun hc => ?_)
  · rw [if_pos hc] at hf
    cases hf
    exact gW.weak (by simp [gle]) hk
  · rw [if_neg hc] at hf
    refine r_aload_n (pc := 8) dX2_parentFor_8 rfl ?_
    replace hf := obind hf
    obtain ⟨x1, e2, hf⟩ := hf
    refine q_getA (pc := 9) dX2_parentFor_9 gX2_9 e2 ?_
    refine r_iload_n (pc := 12) dX2_parentFor_12 rfl ?_
    replace hf := obind hf
    obtain ⟨x3, e4, hf⟩ := hf
    refine q_iald (pc := 13) dX2_parentFor_13 e4 ?_
    refine r_aload_n (pc := 14) dX2_parentFor_14 rfl ?_
    replace hf := obind hf
    obtain ⟨x5, e6, hf⟩ := hf
    refine q_getA (pc := 15) dX2_parentFor_15 gX2_9 e6 ?_
    refine r_iload_n (pc := 18) dX2_parentFor_18 rfl ?_
    replace hf := obind hf
    obtain ⟨x7, e8, hf⟩ := hf
    refine q_iald (pc := 19) dX2_parentFor_19 e8 ?_
    refine r_iconst (pc := 20) (1 : Int32) dX2_parentFor_20 (by decide) ?_
    refine r_isub (pc := 21) dX2_parentFor_21 ?_
    refine r_icmp_ne (pc := 22) 32 dX2_parentFor_22 (by decide) (fun hc => ?_) (fun hc => ?_)
    · rw [if_pos hc] at hf
      refine r_iinc (pc := 32) dX2_parentFor_32 rfl (by decide) ?_
      change gW _ _ _ [some (.ref l0), some (.int l1), some (.int l2), some (.int (l3 + (-1 : Int32)))] _ _ _ _ _ _
      refine r_goto (pc := 35) 4 dX2_parentFor_35 (by decide) ?_
      cases hf
      exact gW.weak (by simp [gle]) hk
    · rw [if_neg hc] at hf
      cases hf
      exact gW.weak (by simp [gle]) hk
def F_X2_parentFor (S : pS) (a0 : Nat) (a1 : Int32) (a2 : Int32) : Option (Int32) := (oF S a0 2).bind fun _ => (iter (F_X2_parentFor_4 a0 a1 a2 S) fu (a1 - (1 : Int32))).bind fun r9 => Sum.elim (fun q11 => (oGA S a0 2 7).bind fun x12 => (oAI S x12 .int q11).bind fun x14 => some x14) (fun q11 => some a2) r9
set_option maxRecDepth 100000 in
set_option maxHeartbeats 4000000 in
theorem C_X2_parentFor {X : pX} {Q : pO → Nat → pF → Prop} (S : pS) (a0 : Nat) (a1 : Int32) (a2 : Int32) (r : Int32) (hf : F_X2_parentFor S a0 a1 a2 = some r) (hk : Q (.inl (some (.int r))) S.1 S.2) : gC X mX2_parentFor [.ref a0, .int a1, .int a2] S.1 S.2 Q 0 0 := by
  refine gC_of (by decide) (Nat.le_of_ble_eq_true rfl) rfl ?_
  change gW _ _ _ [some (.ref a0), some (.int a1), some (.int a2), none] _ _ _ _ _ _
  unfold F_X2_parentFor at hf
  obtain ⟨_, _, hf⟩ := obind hf
  refine r_iload_n (pc := 0) dX2_parentFor_0 rfl ?_
  refine r_iconst (pc := 1) (1 : Int32) dX2_parentFor_1 (by decide) ?_
  refine r_isub (pc := 2) dX2_parentFor_2 ?_
  refine r_istore_n (pc := 3) dX2_parentFor_3 (by decide) ?_
  change gW _ _ _ [some (.ref a0), some (.int a1), some (.int a2), some (.int (a1 - (1 : Int32)))] _ _ _ _ _ _
  replace hf := obind hf
  obtain ⟨r9, e10, hf⟩ := hf
  refine gW.weak (ls' := [some (.ref a0), some (.int a1), some (.int a2), some (.int (a1 - (1 : Int32)))]) (by simp [gle]) ?_
  refine g_iter (L := L_X2_parentFor_4 a0 a1 a2 S) (s := s_X2_parentFor_4 a0 a1 a2 S) (K := K_X2_parentFor_4 X Q _ _ a0 a1 a2 S) (W_X2_parentFor_4 a0 a1 a2 S) fu (a1 - (1 : Int32)) _ e10 ?_
  rcases r9 with q11 | q11
  · simp only [Sum.elim_inl, Sum.elim_inr] at hf
    show gW _ _ 25 [some (.ref a0), some (.int a1), some (.int a2), some (.int q11)] [] S.1 S.2 _ _ _
    refine r_aload_n (pc := 25) dX2_parentFor_25 rfl ?_
    replace hf := obind hf
    obtain ⟨x12, e13, hf⟩ := hf
    refine q_getA (pc := 26) dX2_parentFor_26 gX2_35 e13 ?_
    refine r_iload_n (pc := 29) dX2_parentFor_29 rfl ?_
    replace hf := obind hf
    obtain ⟨x14, e15, hf⟩ := hf
    refine q_iald (pc := 30) dX2_parentFor_30 e15 ?_
    refine r_ireturn (pc := 31) .int dX2_parentFor_31 rfl rfl ?_
    cases hf
    exact hk
  · simp only [Sum.elim_inl, Sum.elim_inr] at hf
    show gW _ _ 38 [some (.ref a0), some (.int a1), some (.int a2), none] [] S.1 S.2 _ _ _
    refine r_iload_n (pc := 38) dX2_parentFor_38 rfl ?_
    refine r_ireturn (pc := 39) .int dX2_parentFor_39 rfl rfl ?_
    cases hf
    exact hk
def F_X2_itemToClone (S : pS) (a0 : Nat) (a1 : Int32) : Option (Int32) := (oF S a0 2).bind fun _ => (oGA S a0 2 1).bind fun x1 => (oAI S x1 .int a1).bind fun x3 => if 0 ≤ x3 then ((oGA S a0 2 7).bind fun x5 => (oAI S x5 .int x3).bind fun x7 => some x7) else (some (0 : Int32))
set_option maxRecDepth 100000 in
set_option maxHeartbeats 4000000 in
theorem C_X2_itemToClone {X : pX} {Q : pO → Nat → pF → Prop} (S : pS) (a0 : Nat) (a1 : Int32) (r : Int32) (hf : F_X2_itemToClone S a0 a1 = some r) (hk : Q (.inl (some (.int r))) S.1 S.2) : gC X mX2_itemToClone [.ref a0, .int a1] S.1 S.2 Q 0 0 := by
  refine gC_of (by decide) (Nat.le_of_ble_eq_true rfl) rfl ?_
  change gW _ _ _ [some (.ref a0), some (.int a1), none] _ _ _ _ _ _
  unfold F_X2_itemToClone at hf
  obtain ⟨_, _, hf⟩ := obind hf
  refine r_aload_n (pc := 0) dX2_itemToClone_0 rfl ?_
  replace hf := obind hf
  obtain ⟨x1, e2, hf⟩ := hf
  refine q_getA (pc := 1) dX2_itemToClone_1 gX2_15 e2 ?_
  refine r_iload_n (pc := 4) dX2_itemToClone_4 rfl ?_
  replace hf := obind hf
  obtain ⟨x3, e4, hf⟩ := hf
  refine q_iald (pc := 5) dX2_itemToClone_5 e4 ?_
  refine r_istore_n (pc := 6) dX2_itemToClone_6 (by decide) ?_
  change gW _ _ _ [some (.ref a0), some (.int a1), some (.int x3)] _ _ _ _ _ _
  refine r_iload_n (pc := 7) dX2_itemToClone_7 rfl ?_
  refine r_if_ge (pc := 8) 15 dX2_itemToClone_8 (by decide) (fun hc => ?_) (fun hc => ?_)
  · rw [if_pos hc] at hf
    refine r_aload_n (pc := 15) dX2_itemToClone_15 rfl ?_
    replace hf := obind hf
    obtain ⟨x5, e6, hf⟩ := hf
    refine q_getA (pc := 16) dX2_itemToClone_16 gX2_35 e6 ?_
    refine r_iload_n (pc := 19) dX2_itemToClone_19 rfl ?_
    replace hf := obind hf
    obtain ⟨x7, e8, hf⟩ := hf
    refine q_iald (pc := 20) dX2_itemToClone_20 e8 ?_
    refine r_ireturn (pc := 21) .int dX2_itemToClone_21 rfl rfl ?_
    cases hf
    exact hk
  · rw [if_neg hc] at hf
    refine r_iconst (pc := 11) (0 : Int32) dX2_itemToClone_11 (by decide) ?_
    refine r_goto (pc := 12) 21 dX2_itemToClone_12 (by decide) ?_
    refine r_ireturn (pc := 21) .int dX2_itemToClone_21 rfl rfl ?_
    cases hf
    exact hk
def F_X8_setName (S : pS) (a0 : Nat) (a1 : Int32) (a2 : Nat) (a3 : Int32) (a4 : Int32) : Option (pS) := (oF S a0 8).bind fun _ => (oGA S a0 8 2).bind fun x1 => (oSI S x1 .int a1 a4).bind fun S3 => (oGA S3 a0 8 3).bind fun x5 => (oCpy S3 .char a2 a3 x5 (a1 * (10 : Int32)) a4).bind fun S7 => some S7
set_option maxRecDepth 100000 in
set_option maxHeartbeats 4000000 in
theorem C_X8_setName {X : pX} {Q : pO → Nat → pF → Prop} (S : pS) (a0 : Nat) (a1 : Int32) (a2 : Nat) (a3 : Int32) (a4 : Int32) (r : pS) (hf : F_X8_setName S a0 a1 a2 a3 a4 = some r) (hk : Q (.inl none) r.1 r.2) : gC X mX8_setName [.ref a0, .int a1, .ref a2, .int a3, .int a4] S.1 S.2 Q 0 0 := by
  refine gC_of (by decide) (Nat.le_of_ble_eq_true rfl) rfl ?_
  change gW _ _ _ [some (.ref a0), some (.int a1), some (.ref a2), some (.int a3), some (.int a4)] _ _ _ _ _ _
  unfold F_X8_setName at hf
  obtain ⟨_, _, hf⟩ := obind hf
  refine r_aload_n (pc := 0) dX8_setName_0 rfl ?_
  replace hf := obind hf
  obtain ⟨x1, e2, hf⟩ := hf
  refine q_getA (pc := 1) dX8_setName_1 gX8_18 e2 ?_
  refine r_iload_n (pc := 4) dX8_setName_4 rfl ?_
  refine r_iload (pc := 5) dX8_setName_5 rfl ?_
  replace hf := obind hf
  obtain ⟨S3, e4, hf⟩ := hf
  refine q_iast (pc := 7) dX8_setName_7 e4 ?_
  refine r_aload_n (pc := 8) dX8_setName_8 rfl ?_
  refine r_iload_n (pc := 9) dX8_setName_9 rfl ?_
  refine r_aload_n (pc := 10) dX8_setName_10 rfl ?_
  replace hf := obind hf
  obtain ⟨x5, e6, hf⟩ := hf
  refine q_getA (pc := 11) dX8_setName_11 gX8_21 e6 ?_
  refine r_iload_n (pc := 14) dX8_setName_14 rfl ?_
  refine r_bipush (pc := 15) (10 : Int32) dX8_setName_15 (by decide) ?_
  refine r_imul (pc := 17) dX8_setName_17 ?_
  refine r_iload (pc := 18) dX8_setName_18 rfl ?_
  replace hf := obind hf
  obtain ⟨S7, e8, hf⟩ := hf
  refine q_copy (pc := 20) dX8_setName_20 (by decide) rfl kX8_45 k_copy.1 k_copy.2.1 k_copy.2.2 e8 ⟨by decide, Nat.le_of_ble_eq_true rfl⟩ ?_
  refine r_return (pc := 23) dX8_setName_23 rfl ?_
  cases hf
  exact hk
