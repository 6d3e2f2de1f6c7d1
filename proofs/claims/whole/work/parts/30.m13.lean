def F_X10_value (S : pS) (a0 : Nat) : Option (Int32 × pS) := (oF S a0 10).bind fun _ => (F_X10_skips S a0 (45 : Int32)).bind fun q1 => (F_X10_number q1.2 a0 (3 : Int32)).bind fun q3 => if q1.1 = 0 then (some (q3.1, q3.2)) else (some (-q3.1, q3.2))
set_option maxRecDepth 100000 in
set_option maxHeartbeats 4000000 in
theorem C_X10_value {X : pX} {Q : pO → Nat → pF → Prop} (S : pS) (a0 : Nat) (r : Int32 × pS) (hf : F_X10_value S a0 = some r) (hk : Q (.inl (some (.int r.1))) r.2.1 r.2.2) : gC X mX10_value [.ref a0] S.1 S.2 Q 0 0 := by
  refine gC_of (by decide) (Nat.le_of_ble_eq_true rfl) rfl ?_
  change gW _ _ _ [some (.ref a0), none, none] _ _ _ _ _ _
  unfold F_X10_value at hf
  obtain ⟨_, _, hf⟩ := obind hf
  refine r_aload_n (pc := 0) dX10_value_0 rfl ?_
  refine r_bipush (pc := 1) (45 : Int32) dX10_value_1 (by decide) ?_
  replace hf := obind hf
  obtain ⟨q1, e2, hf⟩ := hf
  refine q_callV (pc := 3) (v := some (.int q1.1)) (S' := q1.2) mX10_skips 10 [.int (45 : Int32)] dX10_value_3 kX10_316 fX10_skips iX10_skips ⟨by decide, by decide⟩ rfl rfl rfl (Nat.le_of_ble_eq_true rfl) (og e2) (mc1 := 0) (ms1 := 0) (mc2 := 0) (ms2 := 0) (by decide) (by decide) (C_X10_skips S a0 (45 : Int32) q1 e2 (qR_mk _ _)) ?_
  change gW _ _ _ _ (.int q1.1 :: _) _ _ _ _ _
  refine r_istore_n (pc := 6) dX10_value_6 (by decide) ?_
  change gW _ _ _ [some (.ref a0), some (.int q1.1), none] _ _ _ _ _ _
  refine r_aload_n (pc := 7) dX10_value_7 rfl ?_
  refine r_iconst (pc := 8) (3 : Int32) dX10_value_8 (by decide) ?_
  replace hf := obind hf
  obtain ⟨q3, e4, hf⟩ := hf
  refine q_callV (pc := 9) (v := some (.int q3.1)) (S' := q3.2) mX10_number 10 [.int (3 : Int32)] dX10_value_9 kX10_319 fX10_number iX10_number ⟨by decide, by decide⟩ rfl rfl rfl (Nat.le_of_ble_eq_true rfl) (og e4) (mc1 := 0) (ms1 := 0) (mc2 := 0) (ms2 := 0) (by decide) (by decide) (C_X10_number q1.2 a0 (3 : Int32) q3 e4 (qR_mk _ _)) ?_
  change gW _ _ _ _ (.int q3.1 :: _) _ _ _ _ _
  refine r_istore_n (pc := 12) dX10_value_12 (by decide) ?_
  change gW _ _ _ [some (.ref a0), some (.int q1.1), some (.int q3.1)] _ _ _ _ _ _
  refine r_iload_n (pc := 13) dX10_value_13 rfl ?_
  refine r_if_eq (pc := 14) 22 dX10_value_14 (by decide) (fun hc => ?_) (fun hc => ?_)
  · rw [if_pos hc] at hf
    refine r_iload_n (pc := 22) dX10_value_22 rfl ?_
    refine r_ireturn (pc := 23) .int dX10_value_23 rfl rfl ?_
    cases hf
    exact hk
  · rw [if_neg hc] at hf
    refine r_iload_n (pc := 17) dX10_value_17 rfl ?_
    refine r_ineg (pc := 18) dX10_value_18 ?_
    refine r_goto (pc := 19) 23 dX10_value_19 (by decide) ?_
    refine r_ireturn (pc := 23) .int dX10_value_23 rfl rfl ?_
    cases hf
    exact hk
abbrev L_X10_readsWord_6 (l0 : Nat) (S : pS) : Int32 × Int32 × Int32 → List (Option Value) := fun a => [some (.ref l0), some (.int a.1), some (.int a.2.1), some (.int a.2.2), none]
abbrev s_X10_readsWord_6 (l0 : Nat) (S : pS) : Int32 × Int32 × Int32 → pS := fun a => S
abbrev K_X10_readsWord_6 (X : pX) (Q : pO → Nat → pF → Prop) (mc ms : Nat) (l0 : Nat) (S : pS) : Int32 × Int32 → Prop := (fun b => gW X mX10_readsWord 58 [some (.ref l0), some (.int b.1), some (.int b.2), none, none] [] S.1 S.2 Q mc ms)
def F_X10_readsWord_33 (l0 : Nat) (S : pS) (l2 : Int32) (l3 : Int32) (l4 : Int32) (t0 : Int32) : Option ((Int32 × Int32 × Int32) ⊕ (Int32 × Int32)) := (F_X10_wordOf S l3).bind fun q5 => (oLen q5).bind fun x7 => if ¬ l4 = x7 then (some (.inl (t0, l2, l3 + (1 : Int32)))) else (some (.inl (t0, l3, l3 + (1 : Int32))))
set_option maxRecDepth 100000 in
set_option maxHeartbeats 4000000 in
theorem W_X10_readsWord_33 {X : pX} {Q : pO → Nat → pF → Prop} {mc ms : Nat} (l0 : Nat) (S : pS) (l2 : Int32) (l3 : Int32) (l4 : Int32) (t0 : Int32) (r : (Int32 × Int32 × Int32) ⊕ (Int32 × Int32)) (hf : F_X10_readsWord_33 l0 S l2 l3 l4 t0 = some r) (hk : Sum.elim (fun a' => gW X mX10_readsWord 6 (L_X10_readsWord_6 l0 S a') [] (s_X10_readsWord_6 l0 S a').1 (s_X10_readsWord_6 l0 S a').2 Q mc ms) (K_X10_readsWord_6 X Q mc ms l0 S) r) : gW X mX10_readsWord 33 [some (.ref l0), none, some (.int l2), some (.int l3), some (.int l4)] [.int t0] S.1 S.2 Q mc ms := by
  unfold F_X10_readsWord_33 at hf
  refine r_istore_n (pc := 33) dX10_readsWord_33 (by decide) ?_
  change gW _ _ _ [some (.ref l0), some (.int t0), some (.int l2), some (.int l3), some (.int l4)] _ _ _ _ _ _
  refine r_iload (pc := 34) dX10_readsWord_34 rfl ?_
  refine r_iload_n (pc := 36) dX10_readsWord_36 rfl ?_
  replace hf := obind hf
  obtain ⟨q5, e6, hf⟩ := hf
  refine q_callS (pc := 37) (v := some (.retAddr q5)) (S' := S) mX10_wordOf [.int l3] dX10_readsWord_37 kX10_322 fX10_wordOf sX10_wordOf ⟨by decide, by decide⟩ rfl rfl (Nat.le_of_ble_eq_true rfl) (mc1 := 0) (ms1 := 0) (mc2 := mc) (ms2 := ms) (by omega) (by omega) (C_X10_wordOf S l3 q5 e6 (qR_mk _ _)) ?_
  change gW _ _ _ _ (.retAddr q5 :: _) _ _ _ _ _
  replace hf := obind hf
  obtain ⟨x7, e8, hf⟩ := hf
  refine q_len (pc := 40) dX10_readsWord_40 kX10_308 ⟨by decide, by decide⟩ (Nat.le_of_ble_eq_true rfl) (by omega) (by omega) e8 ?_
  refine r_icmp_ne (pc := 43) 50 dX10_readsWord_43 (by decide) (fun hc => ?_) (fun hc => ?_)
  · rw [if_pos hc] at hf
    refine r_iload_n (pc := 50) dX10_readsWord_50 rfl ?_
    refine r_istore_n (pc := 51) dX10_readsWord_51 (by decide) ?_
    change gW _ _ _ [some (.ref l0), some (.int t0), some (.int l2), some (.int l3), some (.int l4)] _ _ _ _ _ _
    refine r_iinc (pc := 52) dX10_readsWord_52 rfl (by decide) ?_
    change gW _ _ _ [some (.ref l0), some (.int t0), some (.int l2), some (.int (l3 + (1 : Int32))), some (.int l4)] _ _ _ _ _ _
    refine r_goto (pc := 55) 6 dX10_readsWord_55 (by decide) ?_
    cases hf
    exact gW.weak (by simp [gle]) hk
  · rw [if_neg hc] at hf
    refine r_iload_n (pc := 46) dX10_readsWord_46 rfl ?_
    refine r_goto (pc := 47) 51 dX10_readsWord_47 (by decide) ?_
    refine r_istore_n (pc := 51) dX10_readsWord_51 (by decide) ?_
    change gW _ _ _ [some (.ref l0), some (.int t0), some (.int l3), some (.int l3), some (.int l4)] _ _ _ _ _ _
    refine r_iinc (pc := 52) dX10_readsWord_52 rfl (by decide) ?_
    change gW _ _ _ [some (.ref l0), some (.int t0), some (.int l3), some (.int (l3 + (1 : Int32))), some (.int l4)] _ _ _ _ _ _
    refine r_goto (pc := 55) 6 dX10_readsWord_55 (by decide) ?_
    cases hf
    exact gW.weak (by simp [gle]) hk
def F_X10_readsWord_6 (l0 : Nat) (S : pS) : Int32 × Int32 × Int32 → Option ((Int32 × Int32 × Int32) ⊕ (Int32 × Int32)) := fun a => if (4 : Int32) ≤ a.2.2 then (some (.inr (a.1, a.2.1))) else ((F_X10_wordOf S a.2.2).bind fun q1 => (F_X10_stands S l0 q1).bind fun q3 => if q3 ≤ a.1 then (F_X10_readsWord_33 l0 S a.2.1 a.2.2 q3 a.1) else (F_X10_readsWord_33 l0 S a.2.1 a.2.2 q3 q3))
set_option maxRecDepth 100000 in
set_option maxHeartbeats 4000000 in
theorem W_X10_readsWord_6 {X : pX} {Q : pO → Nat → pF → Prop} {mc ms : Nat} (l0 : Nat) (S : pS) : ∀ (a : Int32 × Int32 × Int32) (r : (Int32 × Int32 × Int32) ⊕ (Int32 × Int32)), F_X10_readsWord_6 l0 S a = some r → Sum.elim (fun a' => gW X mX10_readsWord 6 (L_X10_readsWord_6 l0 S a') [] (s_X10_readsWord_6 l0 S a').1 (s_X10_readsWord_6 l0 S a').2 Q mc ms) (K_X10_readsWord_6 X Q mc ms l0 S) r → gW X mX10_readsWord 6 (L_X10_readsWord_6 l0 S a) [] (s_X10_readsWord_6 l0 S a).1 (s_X10_readsWord_6 l0 S a).2 Q mc ms := by
  intro a r hf hk
  obtain ⟨l1, l2, l3⟩ := a
  unfold F_X10_readsWord_6 at hf
  try dsimp only at hf
  change gW _ _ _ [some (.ref l0), some (.int l1), some (.int l2), some (.int l3), none] _ S.1 S.2 _ _ _
  refine r_iload_n (pc := 6) dX10_readsWord_6 rfl ?_
  refine r_iconst (pc := 7) (4 : Int32) dX10_readsWord_7 (by decide) ?_
  refine r_icmp_ge (pc := 8) 58 dX10_readsWord_8 (by decide) (fun hc => ?_) (fun hc => ?_)
  · rw [if_pos hc] at hf
    cases hf
    exact gW.weak (by simp [gle]) hk
  · rw [if_neg hc] at hf
    refine r_aload_n (pc := 11) dX10_readsWord_11 rfl ?_
    refine r_iload_n (pc := 12) dX10_readsWord_12 rfl ?_
    replace hf := obind hf
    obtain ⟨q1, e2, hf⟩ := hf
    refine q_callS (pc := 13) (v := some (.retAddr q1)) (S' := S) mX10_wordOf [.int l3] dX10_readsWord_13 kX10_322 fX10_wordOf sX10_wordOf ⟨by decide, by decide⟩ rfl rfl (Nat.le_of_ble_eq_true rfl) (mc1 := 0) (ms1 := 0) (mc2 := mc) (ms2 := ms) (by omega) (by omega) (C_X10_wordOf S l3 q1 e2 (qR_mk _ _)) ?_
    change gW _ _ _ _ (.retAddr q1 :: _) _ _ _ _ _
    replace hf := obind hf
    obtain ⟨q3, e4, hf⟩ := hf
    refine q_callV (pc := 16) (v := some (.int q3)) (S' := S) mX10_stands 10 [.retAddr q1] dX10_readsWord_16 kX10_326 fX10_stands iX10_stands ⟨by decide, by decide⟩ rfl rfl rfl (Nat.le_of_ble_eq_true rfl) (og e4) (mc1 := 0) (ms1 := 0) (mc2 := mc) (ms2 := ms) (by omega) (by omega) (C_X10_stands S l0 q1 q3 e4 (qR_mk _ _)) ?_
    change gW _ _ _ _ (.int q3 :: _) _ _ _ _ _
    refine r_istore (pc := 19) dX10_readsWord_19 (by decide) ?_
    change gW _ _ _ [some (.ref l0), some (.int l1), some (.int l2), some (.int l3), some (.int q3)] _ _ _ _ _ _
    refine r_iload (pc := 21) dX10_readsWord_21 rfl ?_
    refine r_iload_n (pc := 23) dX10_readsWord_23 rfl ?_
    refine r_icmp_le (pc := 24) 32 dX10_readsWord_24 (by decide) (fun hc => ?_) (fun hc => ?_)
    · rw [if_pos hc] at hf
      refine r_iload_n (pc := 32) dX10_readsWord_32 rfl ?_
      exact gW.weak (by simp [gle]) (W_X10_readsWord_33 l0 S l2 l3 q3 l1 r hf hk)
    · rw [if_neg hc] at hf
      refine r_iload (pc := 27) dX10_readsWord_27 rfl ?_
      refine r_goto (pc := 29) 33 dX10_readsWord_29 (by decide) ?_
      exact gW.weak (by simp [gle]) (W_X10_readsWord_33 l0 S l2 l3 q3 q3 r hf hk)
def F_X10_readsWord_79 (S : pS) (l0 : Nat) (l2 : Int32) (t0 : Nat) (t1 : Int32) : Option (pS) := (oPZ S t0 10 23 t1).bind fun S15 => (oGA S15 l0 10 31).bind fun x17 => (oGI S15 l0 10 36).bind fun x19 => (oSI S15 x17 .int x19 l2).bind fun S21 => some S21
set_option maxRecDepth 100000 in
set_option maxHeartbeats 4000000 in
theorem W_X10_readsWord_79 {X : pX} {Q : pO → Nat → pF → Prop} (S : pS) (l0 : Nat) (l2 : Int32) (t0 : Nat) (t1 : Int32) (r : pS) (hf : F_X10_readsWord_79 S l0 l2 t0 t1 = some r) (hk : Q (.inl none) r.1 r.2) : gW X mX10_readsWord 79 [some (.ref l0), none, some (.int l2), none, none] [.int t1, .ref t0] S.1 S.2 Q 0 0 := by
  unfold F_X10_readsWord_79 at hf
  replace hf := obind hf
  obtain ⟨S15, e16, hf⟩ := hf
  refine q_putZ (pc := 79) dX10_readsWord_79 pX10_205 rfl e16 ?_
  refine r_aload_n (pc := 82) dX10_readsWord_82 rfl ?_
  replace hf := obind hf
  obtain ⟨x17, e18, hf⟩ := hf
  refine q_getA (pc := 83) dX10_readsWord_83 gX10_73 e18 ?_
  refine r_aload_n (pc := 86) dX10_readsWord_86 rfl ?_
  replace hf := obind hf
  obtain ⟨x19, e20, hf⟩ := hf
  refine q_getI (pc := 87) dX10_readsWord_87 gX10_330 e20 ?_
  refine r_iload_n (pc := 90) dX10_readsWord_90 rfl ?_
  replace hf := obind hf
  obtain ⟨S21, e22, hf⟩ := hf
  refine q_iast (pc := 91) dX10_readsWord_91 e22 ?_
  refine r_return (pc := 92) dX10_readsWord_92 rfl ?_
  cases hf
  exact hk
def F_X10_readsWord (S : pS) (a0 : Nat) : Option (pS) := (oF S a0 10).bind fun _ => (iter (F_X10_readsWord_6 a0 S) fu ((0 : Int32), (-1 : Int32), (0 : Int32))).bind fun r9 => (oGI S a0 10 21).bind fun x11 => (oPI S a0 10 21 (x11 + r9.1)).bind fun S13 => if r9.2 = (-1 : Int32) then (F_X10_readsWord_79 S13 a0 r9.2 a0 (0 : Int32)) else (F_X10_readsWord_79 S13 a0 r9.2 a0 (1 : Int32))
set_option maxRecDepth 100000 in
set_option maxHeartbeats 4000000 in
theorem C_X10_readsWord {X : pX} {Q : pO → Nat → pF → Prop} (S : pS) (a0 : Nat) (r : pS) (hf : F_X10_readsWord S a0 = some r) (hk : Q (.inl none) r.1 r.2) : gC X mX10_readsWord [.ref a0] S.1 S.2 Q 0 0 := by
  refine gC_of (by decide) (Nat.le_of_ble_eq_true rfl) rfl ?_
  change gW _ _ _ [some (.ref a0), none, none, none, none] _ _ _ _ _ _
  unfold F_X10_readsWord at hf
  obtain ⟨_, _, hf⟩ := obind hf
  refine r_iconst (pc := 0) (0 : Int32) dX10_readsWord_0 (by decide) ?_
  refine r_istore_n (pc := 1) dX10_readsWord_1 (by decide) ?_
  change gW _ _ _ [some (.ref a0), some (.int (0 : Int32)), none, none, none] _ _ _ _ _ _
  refine r_iconst (pc := 2) (-1 : Int32) dX10_readsWord_2 (by decide) ?_
  refine r_istore_n (pc := 3) dX10_readsWord_3 (by decide) ?_
  change gW _ _ _ [some (.ref a0), some (.int (0 : Int32)), some (.int (-1 : Int32)), none, none] _ _ _ _ _ _
  refine r_iconst (pc := 4) (0 : Int32) dX10_readsWord_4 (by decide) ?_
  refine r_istore_n (pc := 5) dX10_readsWord_5 (by decide) ?_
  change gW _ _ _ [some (.ref a0), some (.int (0 : Int32)), some (.int (-1 : Int32)), some (.int (0 : Int32)), none] _ _ _ _ _ _
  replace hf := obind hf
  obtain ⟨r9, e10, hf⟩ := hf
  refine gW.weak (ls' := [some (.ref a0), some (.int (0 : Int32)), some (.int (-1 : Int32)), some (.int (0 : Int32)), none]) (by simp [gle]) ?_
  refine g_iter (L := L_X10_readsWord_6 a0 S) (s := s_X10_readsWord_6 a0 S) (K := K_X10_readsWord_6 X Q _ _ a0 S) (W_X10_readsWord_6 a0 S) fu ((0 : Int32), (-1 : Int32), (0 : Int32)) _ e10 ?_
  show gW _ _ 58 [some (.ref a0), some (.int r9.1), some (.int r9.2), none, none] [] S.1 S.2 _ _ _
  refine r_aload_n (pc := 58) dX10_readsWord_58 rfl ?_
  refine r_dup (pc := 59) dX10_readsWord_59 rfl ?_
  replace hf := obind hf
  obtain ⟨x11, e12, hf⟩ := hf
  refine q_getI (pc := 60) dX10_readsWord_60 gX10_199 e12 ?_
  refine r_iload_n (pc := 63) dX10_readsWord_63 rfl ?_
  refine r_iadd (pc := 64) dX10_readsWord_64 ?_
  replace hf := obind hf
  obtain ⟨S13, e14, hf⟩ := hf
  refine q_putI (pc := 65) dX10_readsWord_65 pX10_199 rfl e14 ?_
  refine r_aload_n (pc := 68) dX10_readsWord_68 rfl ?_
  refine r_iload_n (pc := 69) dX10_readsWord_69 rfl ?_
  refine r_iconst (pc := 70) (-1 : Int32) dX10_readsWord_70 (by decide) ?_
  refine r_icmp_eq (pc := 71) 78 dX10_readsWord_71 (by decide) (fun hc => ?_) (fun hc => ?_)
  · rw [if_pos hc] at hf
    refine r_iconst (pc := 78) (0 : Int32) dX10_readsWord_78 (by decide) ?_
    refine gW.mono (mc := 0) (ms := 0) ?_ (fun _ _ _ q => q) (by decide) (by decide)
    exact gW.weak (by simp [gle]) (W_X10_readsWord_79 S13 a0 r9.2 a0 (0 : Int32) r hf hk)
  · rw [if_neg hc] at hf
    refine r_iconst (pc := 74) (1 : Int32) dX10_readsWord_74 (by decide) ?_
    refine r_goto (pc := 75) 79 dX10_readsWord_75 (by decide) ?_
    refine gW.mono (mc := 0) (ms := 0) ?_ (fun _ _ _ q => q) (by decide) (by decide)
    exact gW.weak (by simp [gle]) (W_X10_readsWord_79 S13 a0 r9.2 a0 (1 : Int32) r hf hk)
def F_X10_readsCondition_206 (S : pS) (l0 : Nat) : Option (pS) := (oGI S l0 10 36).bind fun x29 => (oPI S l0 10 36 (x29 + (1 : Int32))).bind fun S31 => some S31
set_option maxRecDepth 100000 in
set_option maxHeartbeats 4000000 in
theorem W_X10_readsCondition_206 {X : pX} {Q : pO → Nat → pF → Prop} (S : pS) (l0 : Nat) (r : pS) (hf : F_X10_readsCondition_206 S l0 = some r) (hk : Q (.inl none) r.1 r.2) : gW X mX10_readsCondition 206 [some (.ref l0), none, none] [] S.1 S.2 Q 0 0 := by
  unfold F_X10_readsCondition_206 at hf
  refine r_aload_n (pc := 206) dX10_readsCondition_206 rfl ?_
  refine r_dup (pc := 207) dX10_readsCondition_207 rfl ?_
  replace hf := obind hf
  obtain ⟨x29, e30, hf⟩ := hf
  refine q_getI (pc := 208) dX10_readsCondition_208 gX10_330 e30 ?_
  refine r_iconst (pc := 211) (1 : Int32) dX10_readsCondition_211 (by decide) ?_
  refine r_iadd (pc := 212) dX10_readsCondition_212 ?_
  replace hf := obind hf
  obtain ⟨S31, e32, hf⟩ := hf
  refine q_putI (pc := 213) dX10_readsCondition_213 pX10_330 rfl e32 ?_
  refine r_return (pc := 216) dX10_readsCondition_216 rfl ?_
  cases hf
  exact hk
abbrev L_X10_readsCondition_158 (l0 : Nat) (l1 : Int32) : Int32 × pS → List (Option Value) := fun a => [some (.ref l0), some (.int l1), some (.int a.1)]
abbrev s_X10_readsCondition_158 (l0 : Nat) (l1 : Int32) : Int32 × pS → pS := fun a => a.2
abbrev K_X10_readsCondition_158 (X : pX) (Q : pO → Nat → pF → Prop) (mc ms : Nat) (l0 : Nat) (l1 : Int32) : pS → Prop := (fun b => gW X mX10_readsCondition 199 [some (.ref l0), some (.int l1), none] [] b.1 b.2 Q mc ms)
def F_X10_readsCondition_158 (l0 : Nat) (l1 : Int32) : Int32 × pS → Option ((Int32 × pS) ⊕ (pS)) := fun a => (oGA a.2 l0 10 33).bind fun x49 => (oGI a.2 l0 10 36).bind fun x51 => (oAI a.2 x49 .int x51).bind fun x53 => if x53 ≤ a.1 then (some (.inr a.2)) else ((oGA a.2 l0 10 34).bind fun x55 => (oGI a.2 l0 10 36).bind fun x57 => (oGA a.2 l0 10 9).bind fun x59 => (oAI a.2 x59 .int (l1 + a.1)).bind fun x61 => (oSI a.2 x55 .int (((10 : Int32) * x57) + a.1) x61).bind fun S63 => some (.inl (a.1 + (1 : Int32), S63)))
set_option maxRecDepth 100000 in
set_option maxHeartbeats 4000000 in
theorem W_X10_readsCondition_158 {X : pX} {Q : pO → Nat → pF → Prop} {mc ms : Nat} (l0 : Nat) (l1 : Int32) : ∀ (a : Int32 × pS) (r : (Int32 × pS) ⊕ (pS)), F_X10_readsCondition_158 l0 l1 a = some r → Sum.elim (fun a' => gW X mX10_readsCondition 158 (L_X10_readsCondition_158 l0 l1 a') [] (s_X10_readsCondition_158 l0 l1 a').1 (s_X10_readsCondition_158 l0 l1 a').2 Q mc ms) (K_X10_readsCondition_158 X Q mc ms l0 l1) r → gW X mX10_readsCondition 158 (L_X10_readsCondition_158 l0 l1 a) [] (s_X10_readsCondition_158 l0 l1 a).1 (s_X10_readsCondition_158 l0 l1 a).2 Q mc ms := by
  intro a r hf hk
  obtain ⟨l2, S⟩ := a
  unfold F_X10_readsCondition_158 at hf
  try dsimp only at hf
  change gW _ _ _ [some (.ref l0), some (.int l1), some (.int l2)] _ S.1 S.2 _ _ _
  refine r_iload_n (pc := 158) dX10_readsCondition_158 rfl ?_
  refine r_aload_n (pc := 159) dX10_readsCondition_159 rfl ?_
  replace hf := obind hf
  obtain ⟨x49, e50, hf⟩ := hf
  refine q_getA (pc := 160) dX10_readsCondition_160 gX10_79 e50 ?_
  refine r_aload_n (pc := 163) dX10_readsCondition_163 rfl ?_
  replace hf := obind hf
  obtain ⟨x51, e52, hf⟩ := hf
  refine q_getI (pc := 164) dX10_readsCondition_164 gX10_330 e52 ?_
  replace hf := obind hf
  obtain ⟨x53, e54, hf⟩ := hf
  refine q_iald (pc := 167) dX10_readsCondition_167 e54 ?_
  refine r_icmp_ge (pc := 168) 199 dX10_readsCondition_168 (by decide) (fun hc => ?_) (fun hc => ?_)
  · rw [if_pos hc] at hf
    cases hf
    exact gW.weak (by simp [gle]) hk
  · rw [if_neg hc] at hf
    refine r_aload_n (pc := 171) dX10_readsCondition_171 rfl ?_
    replace hf := obind hf
    obtain ⟨x55, e56, hf⟩ := hf
    refine q_getA (pc := 172) dX10_readsCondition_172 gX10_82 e56 ?_
    refine r_bipush (pc := 175) (10 : Int32) dX10_readsCondition_175 (by decide) ?_
    refine r_aload_n (pc := 177) dX10_readsCondition_177 rfl ?_
    replace hf := obind hf
    obtain ⟨x57, e58, hf⟩ := hf
    refine q_getI (pc := 178) dX10_readsCondition_178 gX10_330 e58 ?_
    refine r_imul (pc := 181) dX10_readsCondition_181 ?_
    refine r_iload_n (pc := 182) dX10_readsCondition_182 rfl ?_
    refine r_iadd (pc := 183) dX10_readsCondition_183 ?_
    refine r_aload_n (pc := 184) dX10_readsCondition_184 rfl ?_
    replace hf := obind hf
    obtain ⟨x59, e60, hf⟩ := hf
    refine q_getA (pc := 185) dX10_readsCondition_185 gX10_25 e60 ?_
    refine r_iload_n (pc := 188) dX10_readsCondition_188 rfl ?_
    refine r_iload_n (pc := 189) dX10_readsCondition_189 rfl ?_
    refine r_iadd (pc := 190) dX10_readsCondition_190 ?_
    replace hf := obind hf
    obtain ⟨x61, e62, hf⟩ := hf
    refine q_iald (pc := 191) dX10_readsCondition_191 e62 ?_
    replace hf := obind hf
    obtain ⟨S63, e64, hf⟩ := hf
    refine q_iast (pc := 192) dX10_readsCondition_192 e64 ?_
    refine r_iinc (pc := 193) dX10_readsCondition_193 rfl (by decide) ?_
    change gW _ _ _ [some (.ref l0), some (.int l1), some (.int (l2 + (1 : Int32)))] _ _ _ _ _ _
    refine r_goto (pc := 196) 158 dX10_readsCondition_196 (by decide) ?_
    cases hf
    exact gW.weak (by simp [gle]) hk
def F_X10_readsCondition_155 (S : pS) (l0 : Nat) (l1 : Int32) (t0 : Nat) (t1 : Int32) (t2 : Int32) : Option (pS) := (oSI S t0 .int t1 t2).bind fun S47 => (iter (F_X10_readsCondition_158 l0 l1) fu ((0 : Int32), S47)).bind fun r65 => F_X10_readsCondition_206 r65 l0
set_option maxRecDepth 100000 in
set_option maxHeartbeats 4000000 in
theorem W_X10_readsCondition_155 {X : pX} {Q : pO → Nat → pF → Prop} (S : pS) (l0 : Nat) (l1 : Int32) (t0 : Nat) (t1 : Int32) (t2 : Int32) (r : pS) (hf : F_X10_readsCondition_155 S l0 l1 t0 t1 t2 = some r) (hk : Q (.inl none) r.1 r.2) : gW X mX10_readsCondition 155 [some (.ref l0), some (.int l1), none] [.int t2, .int t1, .ref t0] S.1 S.2 Q 0 0 := by
  unfold F_X10_readsCondition_155 at hf
  replace hf := obind hf
  obtain ⟨S47, e48, hf⟩ := hf
  refine q_iast (pc := 155) dX10_readsCondition_155 e48 ?_
  refine r_iconst (pc := 156) (0 : Int32) dX10_readsCondition_156 (by decide) ?_
  refine r_istore_n (pc := 157) dX10_readsCondition_157 (by decide) ?_
  change gW _ _ _ [some (.ref l0), some (.int l1), some (.int (0 : Int32))] _ _ _ _ _ _
  replace hf := obind hf
  obtain ⟨r65, e66, hf⟩ := hf
  refine gW.weak (ls' := [some (.ref l0), some (.int l1), some (.int (0 : Int32))]) (by simp [gle]) ?_
  refine g_iter (L := L_X10_readsCondition_158 l0 l1) (s := s_X10_readsCondition_158 l0 l1) (K := K_X10_readsCondition_158 X Q _ _ l0 l1) (W_X10_readsCondition_158 l0 l1) fu ((0 : Int32), S47) _ e66 ?_
  show gW _ _ 199 [some (.ref l0), some (.int l1), none] [] r65.1 r65.2 _ _ _
  refine r_goto (pc := 199) 206 dX10_readsCondition_199 (by decide) ?_
  refine gW.mono (mc := 0) (ms := 0) ?_ (fun _ _ _ q => q) (by decide) (by decide)
  exact gW.weak (by simp [gle]) (W_X10_readsCondition_206 r65 l0 r hf hk)
def F_X10_readsCondition (S : pS) (a0 : Nat) : Option (pS) := (oF S a0 10).bind fun _ => (oGA S a0 10 35).bind fun x1 => (oGI S a0 10 36).bind fun x3 => (F_X10_skips S a0 (33 : Int32)).bind fun q5 => (oSI q5.2 x1 .boolean x3 q5.1).bind fun S7 => (oGA S7 a0 10 32).bind fun x9 => (oGI S7 a0 10 36).bind fun x11 => (oSI S7 x9 .int x11 (0 : Int32)).bind fun S13 => (oGA S13 a0 10 33).bind fun x15 => (oGI S13 a0 10 36).bind fun x17 => (oSI S13 x15 .int x17 (0 : Int32)).bind fun S19 => (F_X10_skips S19 a0 (62 : Int32)).bind fun q21 => if q21.1 = 0 then ((F_X10_skips q21.2 a0 (60 : Int32)).bind fun q23 => if q23.1 = 0 then ((F_X10_skips q23.2 a0 (126 : Int32)).bind fun q25 => if q25.1 = 0 then ((F_X10_readsWord q25.2 a0).bind fun q27 => F_X10_readsCondition_206 q27 a0) else ((oGA q25.2 a0 10 31).bind fun x33 => (oGI q25.2 a0 10 36).bind fun x35 => (oSI q25.2 x33 .int x35 (6 : Int32)).bind fun S37 => (F_X10_letters S37 a0).bind fun q39 => (oGA q39.2 a0 10 33).bind fun x41 => (oGI q39.2 a0 10 36).bind fun x43 => (oGI q39.2 a0 10 23).bind fun x45 => if x45 = 0 then (F_X10_readsCondition_155 q39.2 a0 q39.1 x41 x43 (0 : Int32)) else ((oGI q39.2 a0 10 21).bind fun x67 => F_X10_readsCondition_155 q39.2 a0 q39.1 x41 x43 (x67 - q39.1)))) else ((oGA q23.2 a0 10 31).bind fun x69 => (oGI q23.2 a0 10 36).bind fun x71 => (oSI q23.2 x69 .int x71 (5 : Int32)).bind fun S73 => (oGA S73 a0 10 32).bind fun x75 => (oGI S73 a0 10 36).bind fun x77 => (F_X10_value S73 a0).bind fun q79 => (oSI q79.2 x75 .int x77 q79.1).bind fun S81 => F_X10_readsCondition_206 S81 a0)) else ((oGA q21.2 a0 10 31).bind fun x83 => (oGI q21.2 a0 10 36).bind fun x85 => (oSI q21.2 x83 .int x85 (4 : Int32)).bind fun S87 => (oGA S87 a0 10 32).bind fun x89 => (oGI S87 a0 10 36).bind fun x91 => (F_X10_value S87 a0).bind fun q93 => (oSI q93.2 x89 .int x91 q93.1).bind fun S95 => F_X10_readsCondition_206 S95 a0)
set_option maxRecDepth 100000 in
set_option maxHeartbeats 4000000 in
theorem C_X10_readsCondition {X : pX} {Q : pO → Nat → pF → Prop} (S : pS) (a0 : Nat) (r : pS) (hf : F_X10_readsCondition S a0 = some r) (hk : Q (.inl none) r.1 r.2) : gC X mX10_readsCondition [.ref a0] S.1 S.2 Q 0 0 := by
  refine gC_of (by decide) (Nat.le_of_ble_eq_true rfl) rfl ?_
  change gW _ _ _ [some (.ref a0), none, none] _ _ _ _ _ _
  unfold F_X10_readsCondition at hf
  obtain ⟨_, _, hf⟩ := obind hf
  refine r_aload_n (pc := 0) dX10_readsCondition_0 rfl ?_
  replace hf := obind hf
  obtain ⟨x1, e2, hf⟩ := hf
  refine q_getA (pc := 1) dX10_readsCondition_1 gX10_85 e2 ?_
  refine r_aload_n (pc := 4) dX10_readsCondition_4 rfl ?_
  replace hf := obind hf
  obtain ⟨x3, e4, hf⟩ := hf
  refine q_getI (pc := 5) dX10_readsCondition_5 gX10_330 e4 ?_
  refine r_aload_n (pc := 8) dX10_readsCondition_8 rfl ?_
  refine r_bipush (pc := 9) (33 : Int32) dX10_readsCondition_9 (by decide) ?_
  replace hf := obind hf
  obtain ⟨q5, e6, hf⟩ := hf
  refine q_callV (pc := 11) (v := some (.int q5.1)) (S' := q5.2) mX10_skips 10 [.int (33 : Int32)] dX10_readsCondition_11 kX10_316 fX10_skips iX10_skips ⟨by decide, by decide⟩ rfl rfl rfl (Nat.le_of_ble_eq_true rfl) (og e6) (mc1 := 0) (ms1 := 0) (mc2 := 0) (ms2 := 0) (by decide) (by decide) (C_X10_skips S a0 (33 : Int32) q5 e6 (qR_mk _ _)) ?_
  change gW _ _ _ _ (.int q5.1 :: _) _ _ _ _ _
  replace hf := obind hf
  obtain ⟨S7, e8, hf⟩ := hf
  refine q_zast (pc := 14) dX10_readsCondition_14 e8 ?_
  refine r_aload_n (pc := 15) dX10_readsCondition_15 rfl ?_
  replace hf := obind hf
  obtain ⟨x9, e10, hf⟩ := hf
  refine q_getA (pc := 16) dX10_readsCondition_16 gX10_76 e10 ?_
  refine r_aload_n (pc := 19) dX10_readsCondition_19 rfl ?_
  replace hf := obind hf
  obtain ⟨x11, e12, hf⟩ := hf
  refine q_getI (pc := 20) dX10_readsCondition_20 gX10_330 e12 ?_
  refine r_iconst (pc := 23) (0 : Int32) dX10_readsCondition_23 (by decide) ?_
  replace hf := obind hf
  obtain ⟨S13, e14, hf⟩ := hf
  refine q_iast (pc := 24) dX10_readsCondition_24 e14 ?_
  refine r_aload_n (pc := 25) dX10_readsCondition_25 rfl ?_
  replace hf := obind hf
  obtain ⟨x15, e16, hf⟩ := hf
  refine q_getA (pc := 26) dX10_readsCondition_26 gX10_79 e16 ?_
  refine r_aload_n (pc := 29) dX10_readsCondition_29 rfl ?_
  replace hf := obind hf
  obtain ⟨x17, e18, hf⟩ := hf
  refine q_getI (pc := 30) dX10_readsCondition_30 gX10_330 e18 ?_
  refine r_iconst (pc := 33) (0 : Int32) dX10_readsCondition_33 (by decide) ?_
  replace hf := obind hf
  obtain ⟨S19, e20, hf⟩ := hf
  refine q_iast (pc := 34) dX10_readsCondition_34 e20 ?_
  refine r_aload_n (pc := 35) dX10_readsCondition_35 rfl ?_
  refine r_bipush (pc := 36) (62 : Int32) dX10_readsCondition_36 (by decide) ?_
  replace hf := obind hf
  obtain ⟨q21, e22, hf⟩ := hf
  refine q_callV (pc := 38) (v := some (.int q21.1)) (S' := q21.2) mX10_skips 10 [.int (62 : Int32)] dX10_readsCondition_38 kX10_316 fX10_skips iX10_skips ⟨by decide, by decide⟩ rfl rfl rfl (Nat.le_of_ble_eq_true rfl) (og e22) (mc1 := 0) (ms1 := 0) (mc2 := 0) (ms2 := 0) (by decide) (by decide) (C_X10_skips S19 a0 (62 : Int32) q21 e22 (qR_mk _ _)) ?_
  change gW _ _ _ _ (.int q21.1 :: _) _ _ _ _ _
  refine r_if_eq (pc := 41) 70 dX10_readsCondition_41 (by decide) (fun hc => ?_) (fun hc => ?_)
  · rw [if_pos hc] at hf
    refine r_aload_n (pc := 70) dX10_readsCondition_70 rfl ?_
    refine r_bipush (pc := 71) (60 : Int32) dX10_readsCondition_71 (by decide) ?_
    replace hf := obind hf
    obtain ⟨q23, e24, hf⟩ := hf
    refine q_callV (pc := 73) (v := some (.int q23.1)) (S' := q23.2) mX10_skips 10 [.int (60 : Int32)] dX10_readsCondition_73 kX10_316 fX10_skips iX10_skips ⟨by decide, by decide⟩ rfl rfl rfl (Nat.le_of_ble_eq_true rfl) (og e24) (mc1 := 0) (ms1 := 0) (mc2 := 0) (ms2 := 0) (by decide) (by decide) (C_X10_skips q21.2 a0 (60 : Int32) q23 e24 (qR_mk _ _)) ?_
    change gW _ _ _ _ (.int q23.1 :: _) _ _ _ _ _
    refine r_if_eq (pc := 76) 105 dX10_readsCondition_76 (by decide) (fun hc => ?_) (fun hc => ?_)
    · rw [if_pos hc] at hf
      refine r_aload_n (pc := 105) dX10_readsCondition_105 rfl ?_
      refine r_bipush (pc := 106) (126 : Int32) dX10_readsCondition_106 (by decide) ?_
      replace hf := obind hf
      obtain ⟨q25, e26, hf⟩ := hf
      refine q_callV (pc := 108) (v := some (.int q25.1)) (S' := q25.2) mX10_skips 10 [.int (126 : Int32)] dX10_readsCondition_108 kX10_316 fX10_skips iX10_skips ⟨by decide, by decide⟩ rfl rfl rfl (Nat.le_of_ble_eq_true rfl) (og e26) (mc1 := 0) (ms1 := 0) (mc2 := 0) (ms2 := 0) (by decide) (by decide) (C_X10_skips q23.2 a0 (126 : Int32) q25 e26 (qR_mk _ _)) ?_
      change gW _ _ _ _ (.int q25.1 :: _) _ _ _ _ _
      refine r_if_eq (pc := 111) 202 dX10_readsCondition_111 (by decide) (fun hc => ?_) (fun hc => ?_)
      · rw [if_pos hc] at hf
        refine r_aload_n (pc := 202) dX10_readsCondition_202 rfl ?_
        replace hf := obind hf
        obtain ⟨q27, e28, hf⟩ := hf
        refine q_callV (pc := 203) (v := none) (S' := q27) mX10_readsWord 10 [] dX10_readsCondition_203 kX10_336 fX10_readsWord iX10_readsWord ⟨by decide, by decide⟩ rfl rfl rfl (Nat.le_of_ble_eq_true rfl) (og e28) (mc1 := 0) (ms1 := 0) (mc2 := 0) (ms2 := 0) (by decide) (by decide) (C_X10_readsWord q25.2 a0 q27 e28 (qR_mk _ _)) ?_
        refine gW.mono (mc := 0) (ms := 0) ?_ (fun _ _ _ q => q) (by decide) (by decide)
        exact gW.weak (by simp [gle]) (W_X10_readsCondition_206 q27 a0 r hf hk)
      · rw [if_neg hc] at hf
        refine r_aload_n (pc := 114) dX10_readsCondition_114 rfl ?_
        replace hf := obind hf
        obtain ⟨x33, e34, hf⟩ := hf
        refine q_getA (pc := 115) dX10_readsCondition_115 gX10_73 e34 ?_
        refine r_aload_n (pc := 118) dX10_readsCondition_118 rfl ?_
        replace hf := obind hf
        obtain ⟨x35, e36, hf⟩ := hf
        refine q_getI (pc := 119) dX10_readsCondition_119 gX10_330 e36 ?_
        refine r_bipush (pc := 122) (6 : Int32) dX10_readsCondition_122 (by decide) ?_
        replace hf := obind hf
        obtain ⟨S37, e38, hf⟩ := hf
        refine q_iast (pc := 124) dX10_readsCondition_124 e38 ?_
        refine r_aload_n (pc := 125) dX10_readsCondition_125 rfl ?_
        replace hf := obind hf
        obtain ⟨q39, e40, hf⟩ := hf
        refine q_callV (pc := 126) (v := some (.int q39.1)) (S' := q39.2) mX10_letters 10 [] dX10_readsCondition_126 kX10_215 fX10_letters iX10_letters ⟨by decide, by decide⟩ rfl rfl rfl (Nat.le_of_ble_eq_true rfl) (og e40) (mc1 := 0) (ms1 := 0) (mc2 := 0) (ms2 := 0) (by decide) (by decide) (C_X10_letters S37 a0 q39 e40 (qR_mk _ _)) ?_
        change gW _ _ _ _ (.int q39.1 :: _) _ _ _ _ _
        refine r_istore_n (pc := 129) dX10_readsCondition_129 (by decide) ?_
        change gW _ _ _ [some (.ref a0), some (.int q39.1), none] _ _ _ _ _ _
        refine r_aload_n (pc := 130) dX10_readsCondition_130 rfl ?_
        replace hf := obind hf
        obtain ⟨x41, e42, hf⟩ := hf
        refine q_getA (pc := 131) dX10_readsCondition_131 gX10_79 e42 ?_
        refine r_aload_n (pc := 134) dX10_readsCondition_134 rfl ?_
        replace hf := obind hf
        obtain ⟨x43, e44, hf⟩ := hf
        refine q_getI (pc := 135) dX10_readsCondition_135 gX10_330 e44 ?_
        refine r_aload_n (pc := 138) dX10_readsCondition_138 rfl ?_
        replace hf := obind hf
        obtain ⟨x45, e46, hf⟩ := hf
        refine q_getI (pc := 139) dX10_readsCondition_139 gX10_205 e46 ?_
        refine r_if_eq (pc := 142) 154 dX10_readsCondition_142 (by decide) (fun hc => ?_) (fun hc => ?_)
        · rw [if_pos hc] at hf
          refine r_iconst (pc := 154) (0 : Int32) dX10_readsCondition_154 (by decide) ?_
          refine gW.mono (mc := 0) (ms := 0) ?_ (fun _ _ _ q => q) (by decide) (by decide)
          exact gW.weak (by simp [gle]) (W_X10_readsCondition_155 q39.2 a0 q39.1 x41 x43 (0 : Int32) r hf hk)
        · rw [if_neg hc] at hf
          refine r_aload_n (pc := 145) dX10_readsCondition_145 rfl ?_
          replace hf := obind hf
          obtain ⟨x67, e68, hf⟩ := hf
          refine q_getI (pc := 146) dX10_readsCondition_146 gX10_199 e68 ?_
          refine r_iload_n (pc := 149) dX10_readsCondition_149 rfl ?_
          refine r_isub (pc := 150) dX10_readsCondition_150 ?_
          refine r_goto (pc := 151) 155 dX10_readsCondition_151 (by decide) ?_
          refine gW.mono (mc := 0) (ms := 0) ?_ (fun _ _ _ q => q) (by decide) (by decide)
          exact gW.weak (by simp [gle]) (W_X10_readsCondition_155 q39.2 a0 q39.1 x41 x43 (x67 - q39.1) r hf hk)
    · rw [if_neg hc] at hf
      refine r_aload_n (pc := 79) dX10_readsCondition_79 rfl ?_
      replace hf := obind hf
      obtain ⟨x69, e70, hf⟩ := hf
      refine q_getA (pc := 80) dX10_readsCondition_80 gX10_73 e70 ?_
      refine r_aload_n (pc := 83) dX10_readsCondition_83 rfl ?_
      replace hf := obind hf
      obtain ⟨x71, e72, hf⟩ := hf
      refine q_getI (pc := 84) dX10_readsCondition_84 gX10_330 e72 ?_
      refine r_iconst (pc := 87) (5 : Int32) dX10_readsCondition_87 (by decide) ?_
      replace hf := obind hf
      obtain ⟨S73, e74, hf⟩ := hf
      refine q_iast (pc := 88) dX10_readsCondition_88 e74 ?_
      refine r_aload_n (pc := 89) dX10_readsCondition_89 rfl ?_
      replace hf := obind hf
      obtain ⟨x75, e76, hf⟩ := hf
      refine q_getA (pc := 90) dX10_readsCondition_90 gX10_76 e76 ?_
      refine r_aload_n (pc := 93) dX10_readsCondition_93 rfl ?_
      replace hf := obind hf
      obtain ⟨x77, e78, hf⟩ := hf
      refine q_getI (pc := 94) dX10_readsCondition_94 gX10_330 e78 ?_
      refine r_aload_n (pc := 97) dX10_readsCondition_97 rfl ?_
      replace hf := obind hf
      obtain ⟨q79, e80, hf⟩ := hf
      refine q_callV (pc := 98) (v := some (.int q79.1)) (S' := q79.2) mX10_value 10 [] dX10_readsCondition_98 kX10_333 fX10_value iX10_value ⟨by decide, by decide⟩ rfl rfl rfl (Nat.le_of_ble_eq_true rfl) (og e80) (mc1 := 0) (ms1 := 0) (mc2 := 0) (ms2 := 0) (by decide) (by decide) (C_X10_value S73 a0 q79 e80 (qR_mk _ _)) ?_
      change gW _ _ _ _ (.int q79.1 :: _) _ _ _ _ _
      replace hf := obind hf
      obtain ⟨S81, e82, hf⟩ := hf
      refine q_iast (pc := 101) dX10_readsCondition_101 e82 ?_
      refine r_goto (pc := 102) 206 dX10_readsCondition_102 (by decide) ?_
      refine gW.mono (mc := 0) (ms := 0) ?_ (fun _ _ _ q => q) (by decide) (by decide)
      exact gW.weak (by simp [gle]) (W_X10_readsCondition_206 S81 a0 r hf hk)
  · rw [if_neg hc] at hf
    refine r_aload_n (pc := 44) dX10_readsCondition_44 rfl ?_
    replace hf := obind hf
    obtain ⟨x83, e84, hf⟩ := hf
    refine q_getA (pc := 45) dX10_readsCondition_45 gX10_73 e84 ?_
    refine r_aload_n (pc := 48) dX10_readsCondition_48 rfl ?_
    replace hf := obind hf
    obtain ⟨x85, e86, hf⟩ := hf
    refine q_getI (pc := 49) dX10_readsCondition_49 gX10_330 e86 ?_
    refine r_iconst (pc := 52) (4 : Int32) dX10_readsCondition_52 (by decide) ?_
    replace hf := obind hf
    obtain ⟨S87, e88, hf⟩ := hf
    refine q_iast (pc := 53) dX10_readsCondition_53 e88 ?_
    refine r_aload_n (pc := 54) dX10_readsCondition_54 rfl ?_
    replace hf := obind hf
    obtain ⟨x89, e90, hf⟩ := hf
    refine q_getA (pc := 55) dX10_readsCondition_55 gX10_76 e90 ?_
    refine r_aload_n (pc := 58) dX10_readsCondition_58 rfl ?_
    replace hf := obind hf
    obtain ⟨x91, e92, hf⟩ := hf
    refine q_getI (pc := 59) dX10_readsCondition_59 gX10_330 e92 ?_
    refine r_aload_n (pc := 62) dX10_readsCondition_62 rfl ?_
    replace hf := obind hf
    obtain ⟨q93, e94, hf⟩ := hf
    refine q_callV (pc := 63) (v := some (.int q93.1)) (S' := q93.2) mX10_value 10 [] dX10_readsCondition_63 kX10_333 fX10_value iX10_value ⟨by decide, by decide⟩ rfl rfl rfl (Nat.le_of_ble_eq_true rfl) (og e94) (mc1 := 0) (ms1 := 0) (mc2 := 0) (ms2 := 0) (by decide) (by decide) (C_X10_value S87 a0 q93 e94 (qR_mk _ _)) ?_
    change gW _ _ _ _ (.int q93.1 :: _) _ _ _ _ _
    replace hf := obind hf
    obtain ⟨S95, e96, hf⟩ := hf
    refine q_iast (pc := 66) dX10_readsCondition_66 e96 ?_
    refine r_goto (pc := 67) 206 dX10_readsCondition_67 (by decide) ?_
    refine gW.mono (mc := 0) (ms := 0) ?_ (fun _ _ _ q => q) (by decide) (by decide)
    exact gW.weak (by simp [gle]) (W_X10_readsCondition_206 S95 a0 r hf hk)
abbrev L_X10_readsFilter_9 (l0 : Nat) : pS → List (Option Value) := fun a => [some (.ref l0)]
abbrev s_X10_readsFilter_9 (l0 : Nat) : pS → pS := fun a => a
abbrev K_X10_readsFilter_9 (X : pX) (Q : pO → Nat → pF → Prop) (mc ms : Nat) (l0 : Nat) : pS → Prop := (fun b => gW X mX10_readsFilter 77 [some (.ref l0)] [] b.1 b.2 Q mc ms)
def F_X10_readsFilter_50 (l0 : Nat) (S : pS) (t0 : Nat) (t1 : Int32) : Option ((pS) ⊕ (pS)) := (oPZ S t0 10 23 t1).bind fun S13 => (oGI S13 l0 10 23).bind fun x15 => if x15 = 0 then (some (.inl S13)) else ((oGI S13 l0 10 21).bind fun x17 => (oPI S13 l0 10 21 (x17 + (1 : Int32))).bind fun S19 => (F_X10_readsCondition S19 l0).bind fun q21 => some (.inl q21))
set_option maxRecDepth 100000 in
set_option maxHeartbeats 4000000 in
theorem W_X10_readsFilter_50 {X : pX} {Q : pO → Nat → pF → Prop} {mc ms : Nat} (l0 : Nat) (S : pS) (t0 : Nat) (t1 : Int32) (r : (pS) ⊕ (pS)) (hf : F_X10_readsFilter_50 l0 S t0 t1 = some r) (hk : Sum.elim (fun a' => gW X mX10_readsFilter 9 (L_X10_readsFilter_9 l0 a') [] (s_X10_readsFilter_9 l0 a').1 (s_X10_readsFilter_9 l0 a').2 Q mc ms) (K_X10_readsFilter_9 X Q mc ms l0) r) : gW X mX10_readsFilter 50 [some (.ref l0)] [.int t1, .ref t0] S.1 S.2 Q mc ms := by
  unfold F_X10_readsFilter_50 at hf
  replace hf := obind hf
  obtain ⟨S13, e14, hf⟩ := hf
  refine q_putZ (pc := 50) dX10_readsFilter_50 pX10_205 rfl e14 ?_
  refine r_aload_n (pc := 53) dX10_readsFilter_53 rfl ?_
  replace hf := obind hf
  obtain ⟨x15, e16, hf⟩ := hf
  refine q_getI (pc := 54) dX10_readsFilter_54 gX10_205 e16 ?_
  refine r_if_eq (pc := 57) 9 dX10_readsFilter_57 (by decide) (fun hc => ?_) (fun hc => ?_)
  · rw [if_pos hc] at hf
    cases hf
    exact gW.weak (by simp [gle]) hk
  · rw [if_neg hc] at hf
    refine r_aload_n (pc := 60) dX10_readsFilter_60 rfl ?_
    refine r_dup (pc := 61) dX10_readsFilter_61 rfl ?_
    replace hf := obind hf
    obtain ⟨x17, e18, hf⟩ := hf
    refine q_getI (pc := 62) dX10_readsFilter_62 gX10_199 e18 ?_
    refine r_iconst (pc := 65) (1 : Int32) dX10_readsFilter_65 (by decide) ?_
    refine r_iadd (pc := 66) dX10_readsFilter_66 ?_
    replace hf := obind hf
    obtain ⟨S19, e20, hf⟩ := hf
    refine q_putI (pc := 67) dX10_readsFilter_67 pX10_199 rfl e20 ?_
    refine r_aload_n (pc := 70) dX10_readsFilter_70 rfl ?_
    replace hf := obind hf
    obtain ⟨q21, e22, hf⟩ := hf
    refine q_callV (pc := 71) (v := none) (S' := q21) mX10_readsCondition 10 [] dX10_readsFilter_71 kX10_339 fX10_readsCondition iX10_readsCondition ⟨by decide, by decide⟩ rfl rfl rfl (Nat.le_of_ble_eq_true rfl) (og e22) (mc1 := 0) (ms1 := 0) (mc2 := mc) (ms2 := ms) (by omega) (by omega) (C_X10_readsCondition S19 l0 q21 e22 (qR_mk _ _)) ?_
    refine r_goto (pc := 74) 9 dX10_readsFilter_74 (by decide) ?_
    cases hf
    exact gW.weak (by simp [gle]) hk
def F_X10_readsFilter_49 (l0 : Nat) (S : pS) (t0 : Nat) : Option ((pS) ⊕ (pS)) := F_X10_readsFilter_50 l0 S t0 (0 : Int32)
set_option maxRecDepth 100000 in
set_option maxHeartbeats 4000000 in
theorem W_X10_readsFilter_49 {X : pX} {Q : pO → Nat → pF → Prop} {mc ms : Nat} (l0 : Nat) (S : pS) (t0 : Nat) (r : (pS) ⊕ (pS)) (hf : F_X10_readsFilter_49 l0 S t0 = some r) (hk : Sum.elim (fun a' => gW X mX10_readsFilter 9 (L_X10_readsFilter_9 l0 a') [] (s_X10_readsFilter_9 l0 a').1 (s_X10_readsFilter_9 l0 a').2 Q mc ms) (K_X10_readsFilter_9 X Q mc ms l0) r) : gW X mX10_readsFilter 49 [some (.ref l0)] [.ref t0] S.1 S.2 Q mc ms := by
  unfold F_X10_readsFilter_49 at hf
  refine r_iconst (pc := 49) (0 : Int32) dX10_readsFilter_49 (by decide) ?_
  exact gW.weak (by simp [gle]) (W_X10_readsFilter_50 l0 S t0 (0 : Int32) r hf hk)
def F_X10_readsFilter_9 (l0 : Nat) : pS → Option ((pS) ⊕ (pS)) := fun a => (oGI a l0 10 23).bind fun x5 => if x5 = 0 then (some (.inr a)) else ((oGI a l0 10 21).bind fun x7 => (oGI a l0 10 22).bind fun x9 => if x9 ≤ x7 then (some (.inr a)) else ((oGI a l0 10 36).bind fun x11 => if (5 : Int32) ≤ x11 then (F_X10_readsFilter_49 l0 a l0) else ((F_X10_here a l0).bind fun q23 => if ¬ q23 = (38 : Int32) then (F_X10_readsFilter_49 l0 a l0) else (F_X10_readsFilter_50 l0 a l0 (1 : Int32)))))
set_option maxRecDepth 100000 in
set_option maxHeartbeats 4000000 in
theorem W_X10_readsFilter_9 {X : pX} {Q : pO → Nat → pF → Prop} {mc ms : Nat} (l0 : Nat) : ∀ (a : pS) (r : (pS) ⊕ (pS)), F_X10_readsFilter_9 l0 a = some r → Sum.elim (fun a' => gW X mX10_readsFilter 9 (L_X10_readsFilter_9 l0 a') [] (s_X10_readsFilter_9 l0 a').1 (s_X10_readsFilter_9 l0 a').2 Q mc ms) (K_X10_readsFilter_9 X Q mc ms l0) r → gW X mX10_readsFilter 9 (L_X10_readsFilter_9 l0 a) [] (s_X10_readsFilter_9 l0 a).1 (s_X10_readsFilter_9 l0 a).2 Q mc ms := by
  intro S r hf hk
  unfold F_X10_readsFilter_9 at hf
  try dsimp only at hf
  change gW _ _ _ [some (.ref l0)] _ S.1 S.2 _ _ _
  refine r_aload_n (pc := 9) dX10_readsFilter_9 rfl ?_
  replace hf := obind hf
  obtain ⟨x5, e6, hf⟩ := hf
  refine q_getI (pc := 10) dX10_readsFilter_10 gX10_205 e6 ?_
  refine r_if_eq (pc := 13) 77 dX10_readsFilter_13 (by decide) (fun hc => ?_) (fun hc => ?_)
  · rw [if_pos hc] at hf
    cases hf
    exact gW.weak (by simp [gle]) hk
  · rw [if_neg hc] at hf
    refine r_aload_n (pc := 16) dX10_readsFilter_16 rfl ?_
    replace hf := obind hf
    obtain ⟨x7, e8, hf⟩ := hf
    refine q_getI (pc := 17) dX10_readsFilter_17 gX10_199 e8 ?_
    refine r_aload_n (pc := 20) dX10_readsFilter_20 rfl ?_
    replace hf := obind hf
    obtain ⟨x9, e10, hf⟩ := hf
    refine q_getI (pc := 21) dX10_readsFilter_21 gX10_202 e10 ?_
    refine r_icmp_ge (pc := 24) 77 dX10_readsFilter_24 (by decide) (fun hc => ?_) (fun hc => ?_)
    · rw [if_pos hc] at hf
      cases hf
      exact gW.weak (by simp [gle]) hk
    · rw [if_neg hc] at hf
      refine r_aload_n (pc := 27) dX10_readsFilter_27 rfl ?_
      refine r_aload_n (pc := 28) dX10_readsFilter_28 rfl ?_
      replace hf := obind hf
      obtain ⟨x11, e12, hf⟩ := hf
      refine q_getI (pc := 29) dX10_readsFilter_29 gX10_330 e12 ?_
      refine r_iconst (pc := 32) (5 : Int32) dX10_readsFilter_32 (by decide) ?_
      refine r_icmp_ge (pc := 33) 49 dX10_readsFilter_33 (by decide) (fun hc => ?_) (fun hc => ?_)
      · rw [if_pos hc] at hf
        exact gW.weak (by simp [gle]) (W_X10_readsFilter_49 l0 S l0 r hf hk)
      · rw [if_neg hc] at hf
        refine r_aload_n (pc := 36) dX10_readsFilter_36 rfl ?_
        replace hf := obind hf
        obtain ⟨q23, e24, hf⟩ := hf
        refine q_callV (pc := 37) (v := some (.int q23)) (S' := S) mX10_here 10 [] dX10_readsFilter_37 kX10_209 fX10_here iX10_here ⟨by decide, by decide⟩ rfl rfl rfl (Nat.le_of_ble_eq_true rfl) (og e24) (mc1 := 0) (ms1 := 0) (mc2 := mc) (ms2 := ms) (by omega) (by omega) (C_X10_here S l0 q23 e24 (qR_mk _ _)) ?_
        change gW _ _ _ _ (.int q23 :: _) _ _ _ _ _
        refine r_bipush (pc := 40) (38 : Int32) dX10_readsFilter_40 (by decide) ?_
        refine r_icmp_ne (pc := 42) 49 dX10_readsFilter_42 (by decide) (fun hc => ?_) (fun hc => ?_)
        · rw [if_pos hc] at hf
          exact gW.weak (by simp [gle]) (W_X10_readsFilter_49 l0 S l0 r hf hk)
        · rw [if_neg hc] at hf
          refine r_iconst (pc := 45) (1 : Int32) dX10_readsFilter_45 (by decide) ?_
          refine r_goto (pc := 46) 50 dX10_readsFilter_46 (by decide) ?_
          exact gW.weak (by simp [gle]) (W_X10_readsFilter_50 l0 S l0 (1 : Int32) r hf hk)
def F_X10_readsFilter_77 (S : pS) (l0 : Nat) : Option (Int32 × pS) := (oGI S l0 10 23).bind fun x27 => (oZ x27).bind fun x29 => some (x29, S)
set_option maxRecDepth 100000 in
set_option maxHeartbeats 4000000 in
theorem W_X10_readsFilter_77 {X : pX} {Q : pO → Nat → pF → Prop} (S : pS) (l0 : Nat) (r : Int32 × pS) (hf : F_X10_readsFilter_77 S l0 = some r) (hk : Q (.inl (some (.int r.1))) r.2.1 r.2.2) : gW X mX10_readsFilter 77 [some (.ref l0)] [] S.1 S.2 Q 0 0 := by
  unfold F_X10_readsFilter_77 at hf
  refine r_aload_n (pc := 77) dX10_readsFilter_77 rfl ?_
  replace hf := obind hf
  obtain ⟨x27, e28, hf⟩ := hf
  refine q_getI (pc := 78) dX10_readsFilter_78 gX10_205 e28 ?_
  replace hf := obind hf
  obtain ⟨x29, e30, hf⟩ := hf
  obtain ⟨e30a, e30b⟩ := oZ_some e30
  rw [e30a] at hf
  refine r_ireturn (pc := 81) .boolean dX10_readsFilter_81 rfl e30b ?_
  cases hf
  exact hk
def F_X10_readsFilter (S : pS) (a0 : Nat) : Option (Int32 × pS) := (oF S a0 10).bind fun _ => (oPI S a0 10 36 (0 : Int32)).bind fun S1 => (F_X10_readsCondition S1 a0).bind fun q3 => (iter (F_X10_readsFilter_9 a0) fu q3).bind fun r25 => F_X10_readsFilter_77 r25 a0
set_option maxRecDepth 100000 in
set_option maxHeartbeats 4000000 in
theorem C_X10_readsFilter {X : pX} {Q : pO → Nat → pF → Prop} (S : pS) (a0 : Nat) (r : Int32 × pS) (hf : F_X10_readsFilter S a0 = some r) (hk : Q (.inl (some (.int r.1))) r.2.1 r.2.2) : gC X mX10_readsFilter [.ref a0] S.1 S.2 Q 0 0 := by
  refine gC_of (by decide) (Nat.le_of_ble_eq_true rfl) rfl ?_
  change gW _ _ _ [some (.ref a0)] _ _ _ _ _ _
  unfold F_X10_readsFilter at hf
  obtain ⟨_, _, hf⟩ := obind hf
  refine r_aload_n (pc := 0) dX10_readsFilter_0 rfl ?_
  refine r_iconst (pc := 1) (0 : Int32) dX10_readsFilter_1 (by decide) ?_
  replace hf := obind hf
  obtain ⟨S1, e2, hf⟩ := hf
  refine q_putI (pc := 2) dX10_readsFilter_2 pX10_330 rfl e2 ?_
  refine r_aload_n (pc := 5) dX10_readsFilter_5 rfl ?_
  replace hf := obind hf
  obtain ⟨q3, e4, hf⟩ := hf
  refine q_callV (pc := 6) (v := none) (S' := q3) mX10_readsCondition 10 [] dX10_readsFilter_6 kX10_339 fX10_readsCondition iX10_readsCondition ⟨by decide, by decide⟩ rfl rfl rfl (Nat.le_of_ble_eq_true rfl) (og e4) (mc1 := 0) (ms1 := 0) (mc2 := 0) (ms2 := 0) (by decide) (by decide) (C_X10_readsCondition S1 a0 q3 e4 (qR_mk _ _)) ?_
  replace hf := obind hf
  obtain ⟨r25, e26, hf⟩ := hf
  refine gW.weak (ls' := [some (.ref a0)]) (by simp [gle]) ?_
  refine g_iter (L := L_X10_readsFilter_9 a0) (s := s_X10_readsFilter_9 a0) (K := K_X10_readsFilter_9 X Q _ _ a0) (W_X10_readsFilter_9 a0) fu q3 _ e26 ?_
  show gW _ _ 77 [some (.ref a0)] [] r25.1 r25.2 _ _ _
  refine gW.mono (mc := 0) (ms := 0) ?_ (fun _ _ _ q => q) (by decide) (by decide)
  exact gW.weak (by simp [gle]) (W_X10_readsFilter_77 r25 a0 r hf hk)
abbrev L_X10_filter_58 (l0 : Nat) : Int32 × pS → List (Option Value) := fun a => [some (.ref l0), some (.int a.1), none]
abbrev s_X10_filter_58 (l0 : Nat) : Int32 × pS → pS := fun a => a.2
abbrev K_X10_filter_58 (X : pX) (Q : pO → Nat → pF → Prop) (mc ms : Nat) (l0 : Nat) : pS → Prop := (fun b => gW X mX10_filter 156 [some (.ref l0), none, none] [] b.1 b.2 Q mc ms)
abbrev L_X10_filter_116 (l0 : Nat) (l1 : Int32) : Int32 × pS → List (Option Value) := fun a => [some (.ref l0), some (.int l1), some (.int a.1)]
abbrev s_X10_filter_116 (l0 : Nat) (l1 : Int32) : Int32 × pS → pS := fun a => a.2
abbrev K_X10_filter_116 (X : pX) (Q : pO → Nat → pF → Prop) (mc ms : Nat) (l0 : Nat) (l1 : Int32) : pS → Prop := (fun b => gW X mX10_filter 150 [some (.ref l0), some (.int l1), none] [] b.1 b.2 Q mc ms)
def F_X10_filter_116 (l0 : Nat) (l1 : Int32) : Int32 × pS → Option ((Int32 × pS) ⊕ (pS)) := fun a => if (10 : Int32) ≤ a.1 then (some (.inr a.2)) else ((oGA a.2 l0 10 28).bind fun x47 => (oGA a.2 l0 10 34).bind fun x49 => (oAI a.2 x49 .int (((10 : Int32) * l1) + a.1)).bind fun x51 => (oSI a.2 x47 .int (((10 : Int32) * l1) + a.1) x51).bind fun S53 => some (.inl (a.1 + (1 : Int32), S53)))
set_option maxRecDepth 100000 in
set_option maxHeartbeats 4000000 in
theorem W_X10_filter_116 {X : pX} {Q : pO → Nat → pF → Prop} {mc ms : Nat} (l0 : Nat) (l1 : Int32) : ∀ (a : Int32 × pS) (r : (Int32 × pS) ⊕ (pS)), F_X10_filter_116 l0 l1 a = some r → Sum.elim (fun a' => gW X mX10_filter 116 (L_X10_filter_116 l0 l1 a') [] (s_X10_filter_116 l0 l1 a').1 (s_X10_filter_116 l0 l1 a').2 Q mc ms) (K_X10_filter_116 X Q mc ms l0 l1) r → gW X mX10_filter 116 (L_X10_filter_116 l0 l1 a) [] (s_X10_filter_116 l0 l1 a).1 (s_X10_filter_116 l0 l1 a).2 Q mc ms := by
  intro a r hf hk
  obtain ⟨l2, S⟩ := a
  unfold F_X10_filter_116 at hf
  try dsimp only at hf
  change gW _ _ _ [some (.ref l0), some (.int l1), some (.int l2)] _ S.1 S.2 _ _ _
  refine r_iload_n (pc := 116) dX10_filter_116 rfl ?_
  refine r_bipush (pc := 117) (10 : Int32) dX10_filter_117 (by decide) ?_
  refine r_icmp_ge (pc := 119) 150 dX10_filter_119 (by decide) (fun hc => ?_) (fun hc => ?_)
  · rw [if_pos hc] at hf
    cases hf
    exact gW.weak (by simp [gle]) hk
  · rw [if_neg hc] at hf
    refine r_aload_n (pc := 122) dX10_filter_122 rfl ?_
    replace hf := obind hf
    obtain ⟨x47, e48, hf⟩ := hf
    refine q_getA (pc := 123) dX10_filter_123 gX10_66 e48 ?_
    refine r_bipush (pc := 126) (10 : Int32) dX10_filter_126 (by decide) ?_
    refine r_iload_n (pc := 128) dX10_filter_128 rfl ?_
    refine r_imul (pc := 129) dX10_filter_129 ?_
    refine r_iload_n (pc := 130) dX10_filter_130 rfl ?_
    refine r_iadd (pc := 131) dX10_filter_131 ?_
    refine r_aload_n (pc := 132) dX10_filter_132 rfl ?_
    replace hf := obind hf
    obtain ⟨x49, e50, hf⟩ := hf
    refine q_getA (pc := 133) dX10_filter_133 gX10_82 e50 ?_
    refine r_bipush (pc := 136) (10 : Int32) dX10_filter_136 (by decide) ?_
    refine r_iload_n (pc := 138) dX10_filter_138 rfl ?_
    refine r_imul (pc := 139) dX10_filter_139 ?_
    refine r_iload_n (pc := 140) dX10_filter_140 rfl ?_
    refine r_iadd (pc := 141) dX10_filter_141 ?_
    replace hf := obind hf
    obtain ⟨x51, e52, hf⟩ := hf
    refine q_iald (pc := 142) dX10_filter_142 e52 ?_
    replace hf := obind hf
    obtain ⟨S53, e54, hf⟩ := hf
    refine q_iast (pc := 143) dX10_filter_143 e54 ?_
    refine r_iinc (pc := 144) dX10_filter_144 rfl (by decide) ?_
    change gW _ _ _ [some (.ref l0), some (.int l1), some (.int (l2 + (1 : Int32)))] _ _ _ _ _ _
    refine r_goto (pc := 147) 116 dX10_filter_147 (by decide) ?_
    cases hf
    exact gW.weak (by simp [gle]) hk
def F_X10_filter_58 (l0 : Nat) : Int32 × pS → Option ((Int32 × pS) ⊕ (pS)) := fun a => (oGI a.2 l0 10 30).bind fun x13 => if x13 ≤ a.1 then (some (.inr a.2)) else ((oGA a.2 l0 10 25).bind fun x15 => (oGA a.2 l0 10 31).bind fun x17 => (oAI a.2 x17 .int a.1).bind fun x19 => (oSI a.2 x15 .int a.1 x19).bind fun S21 => (oGA S21 l0 10 26).bind fun x23 => (oGA S21 l0 10 32).bind fun x25 => (oAI S21 x25 .int a.1).bind fun x27 => (oSI S21 x23 .int a.1 x27).bind fun S29 => (oGA S29 l0 10 27).bind fun x31 => (oGA S29 l0 10 33).bind fun x33 => (oAI S29 x33 .int a.1).bind fun x35 => (oSI S29 x31 .int a.1 x35).bind fun S37 => (oGA S37 l0 10 29).bind fun x39 => (oGA S37 l0 10 35).bind fun x41 => (oAI S37 x41 .boolean a.1).bind fun x43 => (oSI S37 x39 .boolean a.1 x43).bind fun S45 => (iter (F_X10_filter_116 l0 a.1) fu ((0 : Int32), S45)).bind fun r55 => some (.inl (a.1 + (1 : Int32), r55)))
set_option maxRecDepth 100000 in
set_option maxHeartbeats 4000000 in
theorem W_X10_filter_58 {X : pX} {Q : pO → Nat → pF → Prop} {mc ms : Nat} (l0 : Nat) : ∀ (a : Int32 × pS) (r : (Int32 × pS) ⊕ (pS)), F_X10_filter_58 l0 a = some r → Sum.elim (fun a' => gW X mX10_filter 58 (L_X10_filter_58 l0 a') [] (s_X10_filter_58 l0 a').1 (s_X10_filter_58 l0 a').2 Q mc ms) (K_X10_filter_58 X Q mc ms l0) r → gW X mX10_filter 58 (L_X10_filter_58 l0 a) [] (s_X10_filter_58 l0 a).1 (s_X10_filter_58 l0 a).2 Q mc ms := by
  intro a r hf hk
  obtain ⟨l1, S⟩ := a
  unfold F_X10_filter_58 at hf
  try dsimp only at hf
  change gW _ _ _ [some (.ref l0), some (.int l1), none] _ S.1 S.2 _ _ _
  refine r_iload_n (pc := 58) dX10_filter_58 rfl ?_
  refine r_aload_n (pc := 59) dX10_filter_59 rfl ?_
  replace hf := obind hf
  obtain ⟨x13, e14, hf⟩ := hf
  refine q_getI (pc := 60) dX10_filter_60 gX10_193 e14 ?_
  refine r_icmp_ge (pc := 63) 156 dX10_filter_63 (by decide) (fun hc => ?_) (fun hc => ?_)
  · rw [if_pos hc] at hf
    cases hf
    exact gW.weak (by simp [gle]) hk
  · rw [if_neg hc] at hf
    refine r_aload_n (pc := 66) dX10_filter_66 rfl ?_
    replace hf := obind hf
    obtain ⟨x15, e16, hf⟩ := hf
    refine q_getA (pc := 67) dX10_filter_67 gX10_57 e16 ?_
    refine r_iload_n (pc := 70) dX10_filter_70 rfl ?_
    refine r_aload_n (pc := 71) dX10_filter_71 rfl ?_
    replace hf := obind hf
    obtain ⟨x17, e18, hf⟩ := hf
    refine q_getA (pc := 72) dX10_filter_72 gX10_73 e18 ?_
    refine r_iload_n (pc := 75) dX10_filter_75 rfl ?_
    replace hf := obind hf
    obtain ⟨x19, e20, hf⟩ := hf
    refine q_iald (pc := 76) dX10_filter_76 e20 ?_
    replace hf := obind hf
    obtain ⟨S21, e22, hf⟩ := hf
    refine q_iast (pc := 77) dX10_filter_77 e22 ?_
    refine r_aload_n (pc := 78) dX10_filter_78 rfl ?_
    replace hf := obind hf
    obtain ⟨x23, e24, hf⟩ := hf
    refine q_getA (pc := 79) dX10_filter_79 gX10_60 e24 ?_
    refine r_iload_n (pc := 82) dX10_filter_82 rfl ?_
    refine r_aload_n (pc := 83) dX10_filter_83 rfl ?_
    replace hf := obind hf
    obtain ⟨x25, e26, hf⟩ := hf
    refine q_getA (pc := 84) dX10_filter_84 gX10_76 e26 ?_
    refine r_iload_n (pc := 87) dX10_filter_87 rfl ?_
    replace hf := obind hf
    obtain ⟨x27, e28, hf⟩ := hf
    refine q_iald (pc := 88) dX10_filter_88 e28 ?_
    replace hf := obind hf
    obtain ⟨S29, e30, hf⟩ := hf
    refine q_iast (pc := 89) dX10_filter_89 e30 ?_
    refine r_aload_n (pc := 90) dX10_filter_90 rfl ?_
    replace hf := obind hf
    obtain ⟨x31, e32, hf⟩ := hf
    refine q_getA (pc := 91) dX10_filter_91 gX10_63 e32 ?_
    refine r_iload_n (pc := 94) dX10_filter_94 rfl ?_
    refine r_aload_n (pc := 95) dX10_filter_95 rfl ?_
    replace hf := obind hf
    obtain ⟨x33, e34, hf⟩ := hf
    refine q_getA (pc := 96) dX10_filter_96 gX10_79 e34 ?_
    refine r_iload_n (pc := 99) dX10_filter_99 rfl ?_
    replace hf := obind hf
    obtain ⟨x35, e36, hf⟩ := hf
    refine q_iald (pc := 100) dX10_filter_100 e36 ?_
    replace hf := obind hf
    obtain ⟨S37, e38, hf⟩ := hf
    refine q_iast (pc := 101) dX10_filter_101 e38 ?_
    refine r_aload_n (pc := 102) dX10_filter_102 rfl ?_
    replace hf := obind hf
    obtain ⟨x39, e40, hf⟩ := hf
    refine q_getA (pc := 103) dX10_filter_103 gX10_69 e40 ?_
    refine r_iload_n (pc := 106) dX10_filter_106 rfl ?_
    refine r_aload_n (pc := 107) dX10_filter_107 rfl ?_
    replace hf := obind hf
    obtain ⟨x41, e42, hf⟩ := hf
    refine q_getA (pc := 108) dX10_filter_108 gX10_85 e42 ?_
    refine r_iload_n (pc := 111) dX10_filter_111 rfl ?_
    replace hf := obind hf
    obtain ⟨x43, e44, hf⟩ := hf
    refine q_zald (pc := 112) dX10_filter_112 e44 ?_
    replace hf := obind hf
    obtain ⟨S45, e46, hf⟩ := hf
    refine q_zast (pc := 113) dX10_filter_113 e46 ?_
    refine r_iconst (pc := 114) (0 : Int32) dX10_filter_114 (by decide) ?_
    refine r_istore_n (pc := 115) dX10_filter_115 (by decide) ?_
    change gW _ _ _ [some (.ref l0), some (.int l1), some (.int (0 : Int32))] _ _ _ _ _ _
    replace hf := obind hf
    obtain ⟨r55, e56, hf⟩ := hf
    refine gW.weak (ls' := [some (.ref l0), some (.int l1), some (.int (0 : Int32))]) (by simp [gle]) ?_
    refine g_iter (L := L_X10_filter_116 l0 l1) (s := s_X10_filter_116 l0 l1) (K := K_X10_filter_116 X Q _ _ l0 l1) (W_X10_filter_116 l0 l1) fu ((0 : Int32), S45) _ e56 ?_
    show gW _ _ 150 [some (.ref l0), some (.int l1), none] [] r55.1 r55.2 _ _ _
    refine r_iinc (pc := 150) dX10_filter_150 rfl (by decide) ?_
    change gW _ _ _ [some (.ref l0), some (.int (l1 + (1 : Int32))), none] _ _ _ _ _ _
    refine r_goto (pc := 153) 58 dX10_filter_153 (by decide) ?_
    cases hf
    exact gW.weak (by simp [gle]) hk
def F_X10_filter_53 (S : pS) (l0 : Nat) (t0 : Nat) (t1 : Int32) : Option (Int32 × pS) := (oPI S t0 10 30 t1).bind fun S11 => (iter (F_X10_filter_58 l0) fu ((0 : Int32), S11)).bind fun r57 => (F_X10_lines r57 l0).bind fun q59 => (oGI q59 l0 10 41).bind fun x61 => some (x61, q59)
set_option maxRecDepth 100000 in
set_option maxHeartbeats 4000000 in
theorem W_X10_filter_53 {X : pX} {Q : pO → Nat → pF → Prop} (S : pS) (l0 : Nat) (t0 : Nat) (t1 : Int32) (r : Int32 × pS) (hf : F_X10_filter_53 S l0 t0 t1 = some r) (hk : Q (.inl (some (.int r.1))) r.2.1 r.2.2) : gW X mX10_filter 53 [some (.ref l0), none, none] [.int t1, .ref t0] S.1 S.2 Q 0 0 := by
  unfold F_X10_filter_53 at hf
  replace hf := obind hf
  obtain ⟨S11, e12, hf⟩ := hf
  refine q_putI (pc := 53) dX10_filter_53 pX10_193 rfl e12 ?_
  refine r_iconst (pc := 56) (0 : Int32) dX10_filter_56 (by decide) ?_
  refine r_istore_n (pc := 57) dX10_filter_57 (by decide) ?_
  change gW _ _ _ [some (.ref l0), some (.int (0 : Int32)), none] _ _ _ _ _ _
  replace hf := obind hf
  obtain ⟨r57, e58, hf⟩ := hf
  refine gW.weak (ls' := [some (.ref l0), some (.int (0 : Int32)), none]) (by simp [gle]) ?_
  refine g_iter (L := L_X10_filter_58 l0) (s := s_X10_filter_58 l0) (K := K_X10_filter_58 X Q _ _ l0) (W_X10_filter_58 l0) fu ((0 : Int32), S11) _ e58 ?_
  show gW _ _ 156 [some (.ref l0), none, none] [] r57.1 r57.2 _ _ _
  refine r_aload_n (pc := 156) dX10_filter_156 rfl ?_
  replace hf := obind hf
  obtain ⟨q59, e60, hf⟩ := hf
  refine q_callV (pc := 157) (v := none) (S' := q59) mX10_lines 10 [] dX10_filter_157 kX10_257 fX10_lines iX10_lines ⟨by decide, by decide⟩ rfl rfl rfl (Nat.le_of_ble_eq_true rfl) (og e60) (mc1 := 0) (ms1 := 0) (mc2 := 0) (ms2 := 0) (by decide) (by decide) (C_X10_lines r57 l0 q59 e60 (qR_mk _ _)) ?_
  refine r_aload_n (pc := 160) dX10_filter_160 rfl ?_
  replace hf := obind hf
  obtain ⟨x61, e62, hf⟩ := hf
  refine q_getI (pc := 161) dX10_filter_161 gX10_260 e62 ?_
  refine r_ireturn (pc := 164) .int dX10_filter_164 rfl rfl ?_
  cases hf
  exact hk
def F_X10_filter_37 (S : pS) (l0 : Nat) : Option (Int32 × pS) := (oGI S l0 10 22).bind fun x7 => if ¬ x7 = 0 then ((oGI S l0 10 36).bind fun x9 => F_X10_filter_53 S l0 l0 x9) else (F_X10_filter_53 S l0 l0 (0 : Int32))
set_option maxRecDepth 100000 in
set_option maxHeartbeats 4000000 in
theorem W_X10_filter_37 {X : pX} {Q : pO → Nat → pF → Prop} (S : pS) (l0 : Nat) (r : Int32 × pS) (hf : F_X10_filter_37 S l0 = some r) (hk : Q (.inl (some (.int r.1))) r.2.1 r.2.2) : gW X mX10_filter 37 [some (.ref l0), none, none] [] S.1 S.2 Q 0 0 := by
  unfold F_X10_filter_37 at hf
  refine r_aload_n (pc := 37) dX10_filter_37 rfl ?_
  refine r_aload_n (pc := 38) dX10_filter_38 rfl ?_
  replace hf := obind hf
  obtain ⟨x7, e8, hf⟩ := hf
  refine q_getI (pc := 39) dX10_filter_39 gX10_202 e8 ?_
  refine r_if_ne (pc := 42) 49 dX10_filter_42 (by decide) (fun hc => ?_) (fun hc => ?_)
  · rw [if_pos hc] at hf
    refine r_aload_n (pc := 49) dX10_filter_49 rfl ?_
    replace hf := obind hf
    obtain ⟨x9, e10, hf⟩ := hf
    refine q_getI (pc := 50) dX10_filter_50 gX10_330 e10 ?_
    refine gW.mono (mc := 0) (ms := 0) ?_ (fun _ _ _ q => q) (by decide) (by decide)
    exact gW.weak (by simp [gle]) (W_X10_filter_53 S l0 l0 x9 r hf hk)
  · rw [if_neg hc] at hf
    refine r_iconst (pc := 45) (0 : Int32) dX10_filter_45 (by decide) ?_
    refine r_goto (pc := 46) 53 dX10_filter_46 (by decide) ?_
    refine gW.mono (mc := 0) (ms := 0) ?_ (fun _ _ _ q => q) (by decide) (by decide)
    exact gW.weak (by simp [gle]) (W_X10_filter_53 S l0 l0 (0 : Int32) r hf hk)
def F_X10_filter (S : pS) (a0 : Nat) : Option (Int32 × pS) := (oF S a0 10).bind fun _ => (oPI S a0 10 0 (0 : Int32)).bind fun S1 => (F_X10_begins S1 a0).bind fun q3 => (oGI q3 a0 10 22).bind fun x5 => if x5 ≤ 0 then (F_X10_filter_37 q3 a0) else ((F_X10_readsFilter q3 a0).bind fun q63 => if ¬ q63.1 = 0 then (F_X10_filter_37 q63.2 a0) else ((oGI q63.2 a0 10 21).bind fun x65 => (oPI q63.2 a0 10 11 x65).bind fun S67 => (F_X10_fails S67 a0 (1 : Int32)).bind fun q69 => some (q69.1, q69.2)))
set_option maxRecDepth 100000 in
set_option maxHeartbeats 4000000 in
theorem C_X10_filter {X : pX} {Q : pO → Nat → pF → Prop} (S : pS) (a0 : Nat) (r : Int32 × pS) (hf : F_X10_filter S a0 = some r) (hk : Q (.inl (some (.int r.1))) r.2.1 r.2.2) : gC X mX10_filter [.ref a0] S.1 S.2 Q 0 0 := by
  refine gC_of (by decide) (Nat.le_of_ble_eq_true rfl) rfl ?_
  change gW _ _ _ [some (.ref a0), none, none] _ _ _ _ _ _
  unfold F_X10_filter at hf
  obtain ⟨_, _, hf⟩ := obind hf
  refine r_aload_n (pc := 0) dX10_filter_0 rfl ?_
  refine r_iconst (pc := 1) (0 : Int32) dX10_filter_1 (by decide) ?_
  replace hf := obind hf
  obtain ⟨S1, e2, hf⟩ := hf
  refine q_putI (pc := 2) dX10_filter_2 pX10_139 rfl e2 ?_
  refine r_aload_n (pc := 5) dX10_filter_5 rfl ?_
  replace hf := obind hf
  obtain ⟨q3, e4, hf⟩ := hf
  refine q_callV (pc := 6) (v := none) (S' := q3) mX10_begins 10 [] dX10_filter_6 kX10_212 fX10_begins iX10_begins ⟨by decide, by decide⟩ rfl rfl rfl (Nat.le_of_ble_eq_true rfl) (og e4) (mc1 := 0) (ms1 := 0) (mc2 := 0) (ms2 := 0) (by decide) (by decide) (C_X10_begins S1 a0 q3 e4 (qR_mk _ _)) ?_
  refine r_aload_n (pc := 9) dX10_filter_9 rfl ?_
  replace hf := obind hf
  obtain ⟨x5, e6, hf⟩ := hf
  refine q_getI (pc := 10) dX10_filter_10 gX10_202 e6 ?_
  refine r_if_le (pc := 13) 37 dX10_filter_13 (by decide) (fun hc => ?_) (fun hc => ?_)
  · rw [if_pos hc] at hf
    refine gW.mono (mc := 0) (ms := 0) ?_ (fun _ _ _ q => q) (by decide) (by decide)
    exact gW.weak (by simp [gle]) (W_X10_filter_37 q3 a0 r hf hk)
  · rw [if_neg hc] at hf
    refine r_aload_n (pc := 16) dX10_filter_16 rfl ?_
    replace hf := obind hf
    obtain ⟨q63, e64, hf⟩ := hf
    refine q_callV (pc := 17) (v := some (.int q63.1)) (S' := q63.2) mX10_readsFilter 10 [] dX10_filter_17 kX10_342 fX10_readsFilter iX10_readsFilter ⟨by decide, by decide⟩ rfl rfl rfl (Nat.le_of_ble_eq_true rfl) (og e64) (mc1 := 0) (ms1 := 0) (mc2 := 0) (ms2 := 0) (by decide) (by decide) (C_X10_readsFilter q3 a0 q63 e64 (qR_mk _ _)) ?_
    change gW _ _ _ _ (.int q63.1 :: _) _ _ _ _ _
    refine r_if_ne (pc := 20) 37 dX10_filter_20 (by decide) (fun hc => ?_) (fun hc => ?_)
    · rw [if_pos hc] at hf
      refine gW.mono (mc := 0) (ms := 0) ?_ (fun _ _ _ q => q) (by decide) (by decide)
      exact gW.weak (by simp [gle]) (W_X10_filter_37 q63.2 a0 r hf hk)
    · rw [if_neg hc] at hf
      refine r_aload_n (pc := 23) dX10_filter_23 rfl ?_
      refine r_aload_n (pc := 24) dX10_filter_24 rfl ?_
      replace hf := obind hf
      obtain ⟨x65, e66, hf⟩ := hf
      refine q_getI (pc := 25) dX10_filter_25 gX10_199 e66 ?_
      replace hf := obind hf
      obtain ⟨S67, e68, hf⟩ := hf
      refine q_putI (pc := 28) dX10_filter_28 pX10_28 rfl e68 ?_
      refine r_aload_n (pc := 31) dX10_filter_31 rfl ?_
      refine r_iconst (pc := 32) (1 : Int32) dX10_filter_32 (by decide) ?_
      replace hf := obind hf
      obtain ⟨q69, e70, hf⟩ := hf
      refine q_callV (pc := 33) (v := some (.int q69.1)) (S' := q69.2) mX10_fails 10 [.int (1 : Int32)] dX10_filter_33 kX10_186 fX10_fails iX10_fails ⟨by decide, by decide⟩ rfl rfl rfl (Nat.le_of_ble_eq_true rfl) (og e70) (mc1 := 0) (ms1 := 0) (mc2 := 0) (ms2 := 0) (by decide) (by decide) (C_X10_fails S67 a0 (1 : Int32) q69 e70 (qR_mk _ _)) ?_
      change gW _ _ _ _ (.int q69.1 :: _) _ _ _ _ _
      refine r_ireturn (pc := 36) .int dX10_filter_36 rfl rfl ?_
      cases hf
      exact hk
abbrev L_X10_writes_12 (l0 : Nat) (l3 : Int32) : Int32 × Int32 × pS → List (Option Value) := fun a => [some (.ref l0), none, some (.int a.1), some (.int l3), some (.int a.2.1), none, none]
abbrev s_X10_writes_12 (l0 : Nat) (l3 : Int32) : Int32 × Int32 × pS → pS := fun a => a.2.2
abbrev K_X10_writes_12 (X : pX) (Q : pO → Nat → pF → Prop) (mc ms : Nat) (l0 : Nat) (l3 : Int32) : pS → Prop := (fun b => gW X mX10_writes 51 [some (.ref l0), none, none, some (.int l3), none, none, none] [] b.1 b.2 Q mc ms)
def F_X10_writes_12 (l0 : Nat) (l3 : Int32) : Int32 × Int32 × pS → Option ((Int32 × Int32 × pS) ⊕ (pS)) := fun a => if a.2.1 < 0 then (some (.inr a.2.2)) else ((oGA a.2.2 l0 10 44).bind fun x5 => (oGA a.2.2 l0 10 37).bind fun x7 => (oAI a.2.2 x7 .int a.1).bind fun x9 => (oSI a.2.2 x5 .int a.2.1 x9).bind fun S11 => if a.2.1 ≤ 0 then (some (.inl (a.1, a.2.1 + (-1 : Int32), S11))) else ((F_X10_upFrom S11 l0 a.1).bind fun q13 => some (.inl (q13, a.2.1 + (-1 : Int32), S11))))
set_option maxRecDepth 100000 in
set_option maxHeartbeats 4000000 in
theorem W_X10_writes_12 {X : pX} {Q : pO → Nat → pF → Prop} {mc ms : Nat} (l0 : Nat) (l3 : Int32) : ∀ (a : Int32 × Int32 × pS) (r : (Int32 × Int32 × pS) ⊕ (pS)), F_X10_writes_12 l0 l3 a = some r → Sum.elim (fun a' => gW X mX10_writes 12 (L_X10_writes_12 l0 l3 a') [] (s_X10_writes_12 l0 l3 a').1 (s_X10_writes_12 l0 l3 a').2 Q mc ms) (K_X10_writes_12 X Q mc ms l0 l3) r → gW X mX10_writes 12 (L_X10_writes_12 l0 l3 a) [] (s_X10_writes_12 l0 l3 a).1 (s_X10_writes_12 l0 l3 a).2 Q mc ms := by
  intro a r hf hk
  obtain ⟨l2, l4, S⟩ := a
  unfold F_X10_writes_12 at hf
  try dsimp only at hf
  change gW _ _ _ [some (.ref l0), none, some (.int l2), some (.int l3), some (.int l4), none, none] _ S.1 S.2 _ _ _
  refine r_iload (pc := 12) dX10_writes_12 rfl ?_
  refine r_if_lt (pc := 14) 51 dX10_writes_14 (by decide) (fun hc => ?_) (fun hc => ?_)
  · rw [if_pos hc] at hf
    cases hf
    exact gW.weak (by simp [gle]) hk
  · rw [if_neg hc] at hf
    refine r_aload_n (pc := 17) dX10_writes_17 rfl ?_
    replace hf := obind hf
    obtain ⟨x5, e6, hf⟩ := hf
    refine q_getA (pc := 18) dX10_writes_18 gX10_106 e6 ?_
    refine r_iload (pc := 21) dX10_writes_21 rfl ?_
    refine r_aload_n (pc := 23) dX10_writes_23 rfl ?_
    replace hf := obind hf
    obtain ⟨x7, e8, hf⟩ := hf
    refine q_getA (pc := 24) dX10_writes_24 gX10_88 e8 ?_
    refine r_iload_n (pc := 27) dX10_writes_27 rfl ?_
    replace hf := obind hf
    obtain ⟨x9, e10, hf⟩ := hf
    refine q_iald (pc := 28) dX10_writes_28 e10 ?_
    replace hf := obind hf
    obtain ⟨S11, e12, hf⟩ := hf
    refine q_iast (pc := 29) dX10_writes_29 e12 ?_
    refine r_iload (pc := 30) dX10_writes_30 rfl ?_
    refine r_if_le (pc := 32) 43 dX10_writes_32 (by decide) (fun hc => ?_) (fun hc => ?_)
    · rw [if_pos hc] at hf
      refine r_iload_n (pc := 43) dX10_writes_43 rfl ?_
      refine r_istore_n (pc := 44) dX10_writes_44 (by decide) ?_
      change gW _ _ _ [some (.ref l0), none, some (.int l2), some (.int l3), some (.int l4), none, none] _ _ _ _ _ _
      refine r_iinc (pc := 45) dX10_writes_45 rfl (by decide) ?_
      change gW _ _ _ [some (.ref l0), none, some (.int l2), some (.int l3), some (.int (l4 + (-1 : Int32))), none, none] _ _ _ _ _ _
      refine r_goto (pc := 48) 12 dX10_writes_48 (by decide) ?_
      cases hf
      exact gW.weak (by simp [gle]) hk
    · rw [if_neg hc] at hf
      refine r_aload_n (pc := 35) dX10_writes_35 rfl ?_
      refine r_iload_n (pc := 36) dX10_writes_36 rfl ?_
      replace hf := obind hf
      obtain ⟨q13, e14, hf⟩ := hf
      refine q_callV (pc := 37) (v := some (.int q13)) (S' := S11) mX10_upFrom 10 [.int l2] dX10_writes_37 kX10_267 fX10_upFrom iX10_upFrom ⟨by decide, by decide⟩ rfl rfl rfl (Nat.le_of_ble_eq_true rfl) (og e14) (mc1 := 0) (ms1 := 0) (mc2 := mc) (ms2 := ms) (by omega) (by omega) (C_X10_upFrom S11 l0 l2 q13 e14 (qR_mk _ _)) ?_
      change gW _ _ _ _ (.int q13 :: _) _ _ _ _ _
      refine r_goto (pc := 40) 44 dX10_writes_40 (by decide) ?_
      refine r_istore_n (pc := 44) dX10_writes_44 (by decide) ?_
      change gW _ _ _ [some (.ref l0), none, some (.int q13), some (.int l3), some (.int l4), none, none] _ _ _ _ _ _
      refine r_iinc (pc := 45) dX10_writes_45 rfl (by decide) ?_
      change gW _ _ _ [some (.ref l0), none, some (.int q13), some (.int l3), some (.int (l4 + (-1 : Int32))), none, none] _ _ _ _ _ _
      refine r_goto (pc := 48) 12 dX10_writes_48 (by decide) ?_
      cases hf
      exact gW.weak (by simp [gle]) hk
abbrev L_X10_writes_57 (l0 : Nat) (l3 : Int32) : Int32 × Int32 × pS → List (Option Value) := fun a => [some (.ref l0), none, none, some (.int l3), some (.int a.1), some (.int a.2.1), none]
abbrev s_X10_writes_57 (l0 : Nat) (l3 : Int32) : Int32 × Int32 × pS → pS := fun a => a.2.2
abbrev K_X10_writes_57 (X : pX) (Q : pO → Nat → pF → Prop) (mc ms : Nat) (l0 : Nat) (l3 : Int32) : Int32 × pS → Prop := (fun b => gW X mX10_writes 148 [some (.ref l0), none, none, some (.int l3), some (.int b.1), none, none] [] b.2.1 b.2.2 Q mc ms)
abbrev L_X10_writes_83 (l0 : Nat) (l3 : Int32) (l5 : Int32) : Int32 × Int32 × pS → List (Option Value) := fun a => [some (.ref l0), none, none, some (.int l3), some (.int a.1), some (.int l5), some (.int a.2.1)]
abbrev s_X10_writes_83 (l0 : Nat) (l3 : Int32) (l5 : Int32) : Int32 × Int32 × pS → pS := fun a => a.2.2
abbrev K_X10_writes_83 (X : pX) (Q : pO → Nat → pF → Prop) (mc ms : Nat) (l0 : Nat) (l3 : Int32) (l5 : Int32) : Int32 × pS → Prop := (fun b => gW X mX10_writes 142 [some (.ref l0), none, none, some (.int l3), some (.int b.1), some (.int l5), none] [] b.2.1 b.2.2 Q mc ms)
def F_X10_writes_83 (l0 : Nat) (l3 : Int32) (l5 : Int32) : Int32 × Int32 × pS → Option ((Int32 × Int32 × pS) ⊕ (Int32 × pS)) := fun a => (oGA a.2.2 l0 10 1).bind fun x17 => (oGA a.2.2 l0 10 44).bind fun x19 => (oAI a.2.2 x19 .int l5).bind fun x21 => (oAI a.2.2 x17 .int ((245 : Int32) + x21)).bind fun x23 => if x23 ≤ a.2.1 then (some (.inr (a.1, a.2.2))) else ((oGA a.2.2 l0 10 45).bind fun x25 => (oGA a.2.2 l0 10 1).bind fun x27 => (oGA a.2.2 l0 10 44).bind fun x29 => (oAI a.2.2 x29 .int l5).bind fun x31 => (oAI a.2.2 x27 .int (((306 : Int32) + ((10 : Int32) * x31)) + a.2.1)).bind fun x33 => (oSI a.2.2 x25 .int a.1 x33).bind fun S35 => some (.inl (a.1 + (1 : Int32), a.2.1 + (1 : Int32), S35)))
set_option maxRecDepth 100000 in
set_option maxHeartbeats 4000000 in
theorem W_X10_writes_83 {X : pX} {Q : pO → Nat → pF → Prop} {mc ms : Nat} (l0 : Nat) (l3 : Int32) (l5 : Int32) : ∀ (a : Int32 × Int32 × pS) (r : (Int32 × Int32 × pS) ⊕ (Int32 × pS)), F_X10_writes_83 l0 l3 l5 a = some r → Sum.elim (fun a' => gW X mX10_writes 83 (L_X10_writes_83 l0 l3 l5 a') [] (s_X10_writes_83 l0 l3 l5 a').1 (s_X10_writes_83 l0 l3 l5 a').2 Q mc ms) (K_X10_writes_83 X Q mc ms l0 l3 l5) r → gW X mX10_writes 83 (L_X10_writes_83 l0 l3 l5 a) [] (s_X10_writes_83 l0 l3 l5 a).1 (s_X10_writes_83 l0 l3 l5 a).2 Q mc ms := by
  intro a r hf hk
  obtain ⟨l4, l6, S⟩ := a
  unfold F_X10_writes_83 at hf
  try dsimp only at hf
  change gW _ _ _ [some (.ref l0), none, none, some (.int l3), some (.int l4), some (.int l5), some (.int l6)] _ S.1 S.2 _ _ _
  refine r_iload (pc := 83) dX10_writes_83 rfl ?_
  refine r_aload_n (pc := 85) dX10_writes_85 rfl ?_
  replace hf := obind hf
  obtain ⟨x17, e18, hf⟩ := hf
  refine q_getA (pc := 86) dX10_writes_86 gX10_7 e18 ?_
  refine r_sipush (pc := 89) (245 : Int32) dX10_writes_89 (by decide) ?_
  refine r_aload_n (pc := 92) dX10_writes_92 rfl ?_
  replace hf := obind hf
  obtain ⟨x19, e20, hf⟩ := hf
  refine q_getA (pc := 93) dX10_writes_93 gX10_106 e20 ?_
  refine r_iload (pc := 96) dX10_writes_96 rfl ?_
  replace hf := obind hf
  obtain ⟨x21, e22, hf⟩ := hf
  refine q_iald (pc := 98) dX10_writes_98 e22 ?_
  refine r_iadd (pc := 99) dX10_writes_99 ?_
  replace hf := obind hf
  obtain ⟨x23, e24, hf⟩ := hf
  refine q_iald (pc := 100) dX10_writes_100 e24 ?_
  refine r_icmp_ge (pc := 101) 142 dX10_writes_101 (by decide) (fun hc => ?_) (fun hc => ?_)
  · rw [if_pos hc] at hf
    cases hf
    exact gW.weak (by simp [gle]) hk
  · rw [if_neg hc] at hf
    refine r_aload_n (pc := 104) dX10_writes_104 rfl ?_
    replace hf := obind hf
    obtain ⟨x25, e26, hf⟩ := hf
    refine q_getA (pc := 105) dX10_writes_105 gX10_109 e26 ?_
    refine r_iload (pc := 108) dX10_writes_108 rfl ?_
    refine r_aload_n (pc := 110) dX10_writes_110 rfl ?_
    replace hf := obind hf
    obtain ⟨x27, e28, hf⟩ := hf
    refine q_getA (pc := 111) dX10_writes_111 gX10_7 e28 ?_
    refine r_sipush (pc := 114) (306 : Int32) dX10_writes_114 (by decide) ?_
    refine r_bipush (pc := 117) (10 : Int32) dX10_writes_117 (by decide) ?_
    refine r_aload_n (pc := 119) dX10_writes_119 rfl ?_
    replace hf := obind hf
    obtain ⟨x29, e30, hf⟩ := hf
    refine q_getA (pc := 120) dX10_writes_120 gX10_106 e30 ?_
    refine r_iload (pc := 123) dX10_writes_123 rfl ?_
    replace hf := obind hf
    obtain ⟨x31, e32, hf⟩ := hf
    refine q_iald (pc := 125) dX10_writes_125 e32 ?_
    refine r_imul (pc := 126) dX10_writes_126 ?_
    refine r_iadd (pc := 127) dX10_writes_127 ?_
    refine r_iload (pc := 128) dX10_writes_128 rfl ?_
    refine r_iadd (pc := 130) dX10_writes_130 ?_
    replace hf := obind hf
    obtain ⟨x33, e34, hf⟩ := hf
    refine q_iald (pc := 131) dX10_writes_131 e34 ?_
    replace hf := obind hf
    obtain ⟨S35, e36, hf⟩ := hf
    refine q_iast (pc := 132) dX10_writes_132 e36 ?_
    refine r_iinc (pc := 133) dX10_writes_133 rfl (by decide) ?_
    change gW _ _ _ [some (.ref l0), none, none, some (.int l3), some (.int (l4 + (1 : Int32))), some (.int l5), some (.int l6)] _ _ _ _ _ _
    refine r_iinc (pc := 136) dX10_writes_136 rfl (by decide) ?_
    change gW _ _ _ [some (.ref l0), none, none, some (.int l3), some (.int (l4 + (1 : Int32))), some (.int l5), some (.int (l6 + (1 : Int32)))] _ _ _ _ _ _
    refine r_goto (pc := 139) 83 dX10_writes_139 (by decide) ?_
    cases hf
    exact gW.weak (by simp [gle]) hk
def F_X10_writes_80 (l0 : Nat) (l3 : Int32) (S : pS) (l4 : Int32) (l5 : Int32) : Option ((Int32 × Int32 × pS) ⊕ (Int32 × pS)) := (iter (F_X10_writes_83 l0 l3 l5) fu (l4, (0 : Int32), S)).bind fun r37 => some (.inl (r37.1, l5 + (1 : Int32), r37.2))
set_option maxRecDepth 100000 in
set_option maxHeartbeats 4000000 in
theorem W_X10_writes_80 {X : pX} {Q : pO → Nat → pF → Prop} {mc ms : Nat} (l0 : Nat) (l3 : Int32) (S : pS) (l4 : Int32) (l5 : Int32) (r : (Int32 × Int32 × pS) ⊕ (Int32 × pS)) (hf : F_X10_writes_80 l0 l3 S l4 l5 = some r) (hk : Sum.elim (fun a' => gW X mX10_writes 57 (L_X10_writes_57 l0 l3 a') [] (s_X10_writes_57 l0 l3 a').1 (s_X10_writes_57 l0 l3 a').2 Q mc ms) (K_X10_writes_57 X Q mc ms l0 l3) r) : gW X mX10_writes 80 [some (.ref l0), none, none, some (.int l3), some (.int l4), some (.int l5), none] [] S.1 S.2 Q mc ms := by
  unfold F_X10_writes_80 at hf
  refine r_iconst (pc := 80) (0 : Int32) dX10_writes_80 (by decide) ?_
  refine r_istore (pc := 81) dX10_writes_81 (by decide) ?_
  change gW _ _ _ [some (.ref l0), none, none, some (.int l3), some (.int l4), some (.int l5), some (.int (0 : Int32))] _ _ _ _ _ _
  replace hf := obind hf
  obtain ⟨r37, e38, hf⟩ := hf
  refine gW.weak (ls' := [some (.ref l0), none, none, some (.int l3), some (.int l4), some (.int l5), some (.int (0 : Int32))]) (by simp [gle]) ?_
  refine g_iter (L := L_X10_writes_83 l0 l3 l5) (s := s_X10_writes_83 l0 l3 l5) (K := K_X10_writes_83 X Q _ _ l0 l3 l5) (W_X10_writes_83 l0 l3 l5) fu (l4, (0 : Int32), S) _ e38 ?_
  show gW _ _ 142 [some (.ref l0), none, none, some (.int l3), some (.int r37.1), some (.int l5), none] [] r37.2.1 r37.2.2 _ _ _
  refine r_iinc (pc := 142) dX10_writes_142 rfl (by decide) ?_
  change gW _ _ _ [some (.ref l0), none, none, some (.int l3), some (.int r37.1), some (.int (l5 + (1 : Int32))), none] _ _ _ _ _ _
  refine r_goto (pc := 145) 57 dX10_writes_145 (by decide) ?_
  cases hf
  exact gW.weak (by simp [gle]) hk
def F_X10_writes_57 (l0 : Nat) (l3 : Int32) : Int32 × Int32 × pS → Option ((Int32 × Int32 × pS) ⊕ (Int32 × pS)) := fun a => if l3 < a.2.1 then (some (.inr (a.1, a.2.2))) else (if a.2.1 ≤ 0 then (F_X10_writes_80 l0 l3 a.2.2 a.1 a.2.1) else ((oGA a.2.2 l0 10 45).bind fun x39 => (oSI a.2.2 x39 .int a.1 (47 : Int32)).bind fun S41 => F_X10_writes_80 l0 l3 S41 (a.1 + (1 : Int32)) a.2.1))
set_option maxRecDepth 100000 in
set_option maxHeartbeats 4000000 in
theorem W_X10_writes_57 {X : pX} {Q : pO → Nat → pF → Prop} {mc ms : Nat} (l0 : Nat) (l3 : Int32) : ∀ (a : Int32 × Int32 × pS) (r : (Int32 × Int32 × pS) ⊕ (Int32 × pS)), F_X10_writes_57 l0 l3 a = some r → Sum.elim (fun a' => gW X mX10_writes 57 (L_X10_writes_57 l0 l3 a') [] (s_X10_writes_57 l0 l3 a').1 (s_X10_writes_57 l0 l3 a').2 Q mc ms) (K_X10_writes_57 X Q mc ms l0 l3) r → gW X mX10_writes 57 (L_X10_writes_57 l0 l3 a) [] (s_X10_writes_57 l0 l3 a).1 (s_X10_writes_57 l0 l3 a).2 Q mc ms := by
  intro a r hf hk
  obtain ⟨l4, l5, S⟩ := a
  unfold F_X10_writes_57 at hf
  try dsimp only at hf
  change gW _ _ _ [some (.ref l0), none, none, some (.int l3), some (.int l4), some (.int l5), none] _ S.1 S.2 _ _ _
  refine r_iload (pc := 57) dX10_writes_57 rfl ?_
  refine r_iload_n (pc := 59) dX10_writes_59 rfl ?_
  refine r_icmp_gt (pc := 60) 148 dX10_writes_60 (by decide) (fun hc => ?_) (fun hc => ?_)
  · rw [if_pos hc] at hf
    cases hf
    exact gW.weak (by simp [gle]) hk
  · rw [if_neg hc] at hf
    refine r_iload (pc := 63) dX10_writes_63 rfl ?_
    refine r_if_le (pc := 65) 80 dX10_writes_65 (by decide) (fun hc => ?_) (fun hc => ?_)
    · rw [if_pos hc] at hf
      exact gW.weak (by simp [gle]) (W_X10_writes_80 l0 l3 S l4 l5 r hf hk)
    · rw [if_neg hc] at hf
      refine r_aload_n (pc := 68) dX10_writes_68 rfl ?_
      replace hf := obind hf
      obtain ⟨x39, e40, hf⟩ := hf
      refine q_getA (pc := 69) dX10_writes_69 gX10_109 e40 ?_
      refine r_iload (pc := 72) dX10_writes_72 rfl ?_
      refine r_bipush (pc := 74) (47 : Int32) dX10_writes_74 (by decide) ?_
      replace hf := obind hf
      obtain ⟨S41, e42, hf⟩ := hf
      refine q_iast (pc := 76) dX10_writes_76 e42 ?_
      refine r_iinc (pc := 77) dX10_writes_77 rfl (by decide) ?_
      change gW _ _ _ [some (.ref l0), none, none, some (.int l3), some (.int (l4 + (1 : Int32))), some (.int l5), none] _ _ _ _ _ _
      exact gW.weak (by simp [gle]) (W_X10_writes_80 l0 l3 S41 (l4 + (1 : Int32)) l5 r hf hk)
def F_X10_writes (S : pS) (a0 : Nat) (a1 : Int32) : Option (Int32 × pS) := (oF S a0 10).bind fun _ => (oGA S a0 10 38).bind fun x1 => (oAI S x1 .int a1).bind fun x3 => (iter (F_X10_writes_12 a0 x3) fu (a1, x3, S)).bind fun r15 => (iter (F_X10_writes_57 a0 x3) fu ((0 : Int32), (0 : Int32), r15)).bind fun r43 => some (r43.1, r43.2)
set_option maxRecDepth 100000 in
set_option maxHeartbeats 4000000 in
theorem C_X10_writes {X : pX} {Q : pO → Nat → pF → Prop} (S : pS) (a0 : Nat) (a1 : Int32) (r : Int32 × pS) (hf : F_X10_writes S a0 a1 = some r) (hk : Q (.inl (some (.int r.1))) r.2.1 r.2.2) : gC X mX10_writes [.ref a0, .int a1] S.1 S.2 Q 0 0 := by
  refine gC_of (by decide) (Nat.le_of_ble_eq_true rfl) rfl ?_
  change gW _ _ _ [some (.ref a0), some (.int a1), none, none, none, none, none] _ _ _ _ _ _
  unfold F_X10_writes at hf
  obtain ⟨_, _, hf⟩ := obind hf
  refine r_iload_n (pc := 0) dX10_writes_0 rfl ?_
  refine r_istore_n (pc := 1) dX10_writes_1 (by decide) ?_
  change gW _ _ _ [some (.ref a0), some (.int a1), some (.int a1), none, none, none, none] _ _ _ _ _ _
  refine r_aload_n (pc := 2) dX10_writes_2 rfl ?_
  replace hf := obind hf
  obtain ⟨x1, e2, hf⟩ := hf
  refine q_getA (pc := 3) dX10_writes_3 gX10_91 e2 ?_
  refine r_iload_n (pc := 6) dX10_writes_6 rfl ?_
  replace hf := obind hf
  obtain ⟨x3, e4, hf⟩ := hf
  refine q_iald (pc := 7) dX10_writes_7 e4 ?_
  refine r_istore_n (pc := 8) dX10_writes_8 (by decide) ?_
  change gW _ _ _ [some (.ref a0), some (.int a1), some (.int a1), some (.int x3), none, none, none] _ _ _ _ _ _
  refine r_iload_n (pc := 9) dX10_writes_9 rfl ?_
  refine r_istore (pc := 10) dX10_writes_10 (by decide) ?_
  change gW _ _ _ [some (.ref a0), some (.int a1), some (.int a1), some (.int x3), some (.int x3), none, none] _ _ _ _ _ _
  replace hf := obind hf
  obtain ⟨r15, e16, hf⟩ := hf
  refine gW.weak (ls' := [some (.ref a0), none, some (.int a1), some (.int x3), some (.int x3), none, none]) (by simp [gle]) ?_
  refine g_iter (L := L_X10_writes_12 a0 x3) (s := s_X10_writes_12 a0 x3) (K := K_X10_writes_12 X Q _ _ a0 x3) (W_X10_writes_12 a0 x3) fu (a1, x3, S) _ e16 ?_
  show gW _ _ 51 [some (.ref a0), none, none, some (.int x3), none, none, none] [] r15.1 r15.2 _ _ _
  refine r_iconst (pc := 51) (0 : Int32) dX10_writes_51 (by decide) ?_
  refine r_istore (pc := 52) dX10_writes_52 (by decide) ?_
  change gW _ _ _ [some (.ref a0), none, none, some (.int x3), some (.int (0 : Int32)), none, none] _ _ _ _ _ _
  refine r_iconst (pc := 54) (0 : Int32) dX10_writes_54 (by decide) ?_
  refine r_istore (pc := 55) dX10_writes_55 (by decide) ?_
  change gW _ _ _ [some (.ref a0), none, none, some (.int x3), some (.int (0 : Int32)), some (.int (0 : Int32)), none] _ _ _ _ _ _
  replace hf := obind hf
  obtain ⟨r43, e44, hf⟩ := hf
  refine gW.weak (ls' := [some (.ref a0), none, none, some (.int x3), some (.int (0 : Int32)), some (.int (0 : Int32)), none]) (by simp [gle]) ?_
  refine g_iter (L := L_X10_writes_57 a0 x3) (s := s_X10_writes_57 a0 x3) (K := K_X10_writes_57 X Q _ _ a0 x3) (W_X10_writes_57 a0 x3) fu ((0 : Int32), (0 : Int32), r15) _ e44 ?_
  show gW _ _ 148 [some (.ref a0), none, none, some (.int x3), some (.int r43.1), none, none] [] r43.2.1 r43.2.2 _ _ _
  refine r_iload (pc := 148) dX10_writes_148 rfl ?_
  refine r_ireturn (pc := 150) .int dX10_writes_150 rfl rfl ?_
  cases hf
  exact hk
def F_X10_hoist (S : pS) (a0 : Nat) (a1 : Int32) : Option (Int32 × pS) := (oF S a0 10).bind fun _ => (oPI S a0 10 0 (0 : Int32)).bind fun S1 => (F_X10_isItem S1 a0 a1).bind fun q3 => if ¬ q3 = 0 then ((oGI S1 a0 10 8).bind fun x5 => if ¬ x5 = (4 : Int32) then ((oGA S1 a0 10 7).bind fun x7 => (oGI S1 a0 10 8).bind fun x9 => (oSI S1 x7 .int x9 a1).bind fun S11 => (oGI S11 a0 10 8).bind fun x13 => (oPI S11 a0 10 8 (x13 + (1 : Int32))).bind fun S15 => (oGI S15 a0 10 8).bind fun x17 => some (x17, S15)) else ((F_X10_fails S1 a0 (2 : Int32)).bind fun q19 => some (q19.1, q19.2))) else ((F_X10_fails S1 a0 (1 : Int32)).bind fun q21 => some (q21.1, q21.2))
set_option maxRecDepth 100000 in
set_option maxHeartbeats 4000000 in
theorem C_X10_hoist {X : pX} {Q : pO → Nat → pF → Prop} (S : pS) (a0 : Nat) (a1 : Int32) (r : Int32 × pS) (hf : F_X10_hoist S a0 a1 = some r) (hk : Q (.inl (some (.int r.1))) r.2.1 r.2.2) : gC X mX10_hoist [.ref a0, .int a1] S.1 S.2 Q 0 0 := by
  refine gC_of (by decide) (Nat.le_of_ble_eq_true rfl) rfl ?_
  change gW _ _ _ [some (.ref a0), some (.int a1)] _ _ _ _ _ _
  unfold F_X10_hoist at hf
  obtain ⟨_, _, hf⟩ := obind hf
  refine r_aload_n (pc := 0) dX10_hoist_0 rfl ?_
  refine r_iconst (pc := 1) (0 : Int32) dX10_hoist_1 (by decide) ?_
  replace hf := obind hf
  obtain ⟨S1, e2, hf⟩ := hf
  refine q_putI (pc := 2) dX10_hoist_2 pX10_139 rfl e2 ?_
  refine r_aload_n (pc := 5) dX10_hoist_5 rfl ?_
  refine r_iload_n (pc := 6) dX10_hoist_6 rfl ?_
  replace hf := obind hf
  obtain ⟨q3, e4, hf⟩ := hf
  refine q_callV (pc := 7) (v := some (.int q3)) (S' := S1) mX10_isItem 10 [.int a1] dX10_hoist_7 kX10_146 fX10_isItem iX10_isItem ⟨by decide, by decide⟩ rfl rfl rfl (Nat.le_of_ble_eq_true rfl) (og e4) (mc1 := 0) (ms1 := 0) (mc2 := 0) (ms2 := 0) (by decide) (by decide) (C_X10_isItem S1 a0 a1 q3 e4 (qR_mk _ _)) ?_
  change gW _ _ _ _ (.int q3 :: _) _ _ _ _ _
  refine r_if_ne (pc := 10) 19 dX10_hoist_10 (by decide) (fun hc => ?_) (fun hc => ?_)
  · rw [if_pos hc] at hf
    refine r_aload_n (pc := 19) dX10_hoist_19 rfl ?_
    replace hf := obind hf
    obtain ⟨x5, e6, hf⟩ := hf
    refine q_getI (pc := 20) dX10_hoist_20 gX10_154 e6 ?_
    refine r_iconst (pc := 23) (4 : Int32) dX10_hoist_23 (by decide) ?_
    refine r_icmp_ne (pc := 24) 33 dX10_hoist_24 (by decide) (fun hc => ?_) (fun hc => ?_)
    · rw [if_pos hc] at hf
      refine r_aload_n (pc := 33) dX10_hoist_33 rfl ?_
      replace hf := obind hf
      obtain ⟨x7, e8, hf⟩ := hf
      refine q_getA (pc := 34) dX10_hoist_34 gX10_22 e8 ?_
      refine r_aload_n (pc := 37) dX10_hoist_37 rfl ?_
      replace hf := obind hf
      obtain ⟨x9, e10, hf⟩ := hf
      refine q_getI (pc := 38) dX10_hoist_38 gX10_154 e10 ?_
      refine r_iload_n (pc := 41) dX10_hoist_41 rfl ?_
      replace hf := obind hf
      obtain ⟨S11, e12, hf⟩ := hf
      refine q_iast (pc := 42) dX10_hoist_42 e12 ?_
      refine r_aload_n (pc := 43) dX10_hoist_43 rfl ?_
      refine r_dup (pc := 44) dX10_hoist_44 rfl ?_
      replace hf := obind hf
      obtain ⟨x13, e14, hf⟩ := hf
      refine q_getI (pc := 45) dX10_hoist_45 gX10_154 e14 ?_
      refine r_iconst (pc := 48) (1 : Int32) dX10_hoist_48 (by decide) ?_
      refine r_iadd (pc := 49) dX10_hoist_49 ?_
      replace hf := obind hf
      obtain ⟨S15, e16, hf⟩ := hf
      refine q_putI (pc := 50) dX10_hoist_50 pX10_154 rfl e16 ?_
      refine r_aload_n (pc := 53) dX10_hoist_53 rfl ?_
      replace hf := obind hf
      obtain ⟨x17, e18, hf⟩ := hf
      refine q_getI (pc := 54) dX10_hoist_54 gX10_154 e18 ?_
      refine r_ireturn (pc := 57) .int dX10_hoist_57 rfl rfl ?_
      cases hf
      exact hk
    · rw [if_neg hc] at hf
      refine r_aload_n (pc := 27) dX10_hoist_27 rfl ?_
      refine r_iconst (pc := 28) (2 : Int32) dX10_hoist_28 (by decide) ?_
      replace hf := obind hf
      obtain ⟨q19, e20, hf⟩ := hf
      refine q_callV (pc := 29) (v := some (.int q19.1)) (S' := q19.2) mX10_fails 10 [.int (2 : Int32)] dX10_hoist_29 kX10_186 fX10_fails iX10_fails ⟨by decide, by decide⟩ rfl rfl rfl (Nat.le_of_ble_eq_true rfl) (og e20) (mc1 := 0) (ms1 := 0) (mc2 := 0) (ms2 := 0) (by decide) (by decide) (C_X10_fails S1 a0 (2 : Int32) q19 e20 (qR_mk _ _)) ?_
      change gW _ _ _ _ (.int q19.1 :: _) _ _ _ _ _
      refine r_ireturn (pc := 32) .int dX10_hoist_32 rfl rfl ?_
      cases hf
      exact hk
  · rw [if_neg hc] at hf
    refine r_aload_n (pc := 13) dX10_hoist_13 rfl ?_
    refine r_iconst (pc := 14) (1 : Int32) dX10_hoist_14 (by decide) ?_
    replace hf := obind hf
    obtain ⟨q21, e22, hf⟩ := hf
    refine q_callV (pc := 15) (v := some (.int q21.1)) (S' := q21.2) mX10_fails 10 [.int (1 : Int32)] dX10_hoist_15 kX10_186 fX10_fails iX10_fails ⟨by decide, by decide⟩ rfl rfl rfl (Nat.le_of_ble_eq_true rfl) (og e22) (mc1 := 0) (ms1 := 0) (mc2 := 0) (ms2 := 0) (by decide) (by decide) (C_X10_fails S1 a0 (1 : Int32) q21 e22 (qR_mk _ _)) ?_
    change gW _ _ _ _ (.int q21.1 :: _) _ _ _ _ _
    refine r_ireturn (pc := 18) .int dX10_hoist_18 rfl rfl ?_
    cases hf
    exact hk
def F_X10_unhoist (S : pS) (a0 : Nat) : Option (Int32 × pS) := (oF S a0 10).bind fun _ => (oPI S a0 10 0 (0 : Int32)).bind fun S1 => (oGI S1 a0 10 8).bind fun x3 => if ¬ x3 = 0 then ((oGI S1 a0 10 8).bind fun x5 => (oPI S1 a0 10 8 (x5 - (1 : Int32))).bind fun S7 => (F_X10_top S7 a0).bind fun q9 => some (q9, S7)) else ((F_X10_fails S1 a0 (1 : Int32)).bind fun q11 => some (q11.1, q11.2))
set_option maxRecDepth 100000 in
set_option maxHeartbeats 4000000 in
theorem C_X10_unhoist {X : pX} {Q : pO → Nat → pF → Prop} (S : pS) (a0 : Nat) (r : Int32 × pS) (hf : F_X10_unhoist S a0 = some r) (hk : Q (.inl (some (.int r.1))) r.2.1 r.2.2) : gC X mX10_unhoist [.ref a0] S.1 S.2 Q 0 0 := by
  refine gC_of (by decide) (Nat.le_of_ble_eq_true rfl) rfl ?_
  change gW _ _ _ [some (.ref a0)] _ _ _ _ _ _
  unfold F_X10_unhoist at hf
  obtain ⟨_, _, hf⟩ := obind hf
  refine r_aload_n (pc := 0) dX10_unhoist_0 rfl ?_
  refine r_iconst (pc := 1) (0 : Int32) dX10_unhoist_1 (by decide) ?_
  replace hf := obind hf
  obtain ⟨S1, e2, hf⟩ := hf
  refine q_putI (pc := 2) dX10_unhoist_2 pX10_139 rfl e2 ?_
  refine r_aload_n (pc := 5) dX10_unhoist_5 rfl ?_
  replace hf := obind hf
  obtain ⟨x3, e4, hf⟩ := hf
  refine q_getI (pc := 6) dX10_unhoist_6 gX10_154 e4 ?_
  refine r_if_ne (pc := 9) 18 dX10_unhoist_9 (by decide) (fun hc => ?_) (fun hc => ?_)
  · rw [if_pos hc] at hf
    refine r_aload_n (pc := 18) dX10_unhoist_18 rfl ?_
    refine r_dup (pc := 19) dX10_unhoist_19 rfl ?_
    replace hf := obind hf
    obtain ⟨x5, e6, hf⟩ := hf
    refine q_getI (pc := 20) dX10_unhoist_20 gX10_154 e6 ?_
    refine r_iconst (pc := 23) (1 : Int32) dX10_unhoist_23 (by decide) ?_
    refine r_isub (pc := 24) dX10_unhoist_24 ?_
    replace hf := obind hf
    obtain ⟨S7, e8, hf⟩ := hf
    refine q_putI (pc := 25) dX10_unhoist_25 pX10_154 rfl e8 ?_
    refine r_aload_n (pc := 28) dX10_unhoist_28 rfl ?_
    replace hf := obind hf
    obtain ⟨q9, e10, hf⟩ := hf
    refine q_callV (pc := 29) (v := some (.int q9)) (S' := S7) mX10_top 10 [] dX10_unhoist_29 kX10_285 fX10_top iX10_top ⟨by decide, by decide⟩ rfl rfl rfl (Nat.le_of_ble_eq_true rfl) (og e10) (mc1 := 0) (ms1 := 0) (mc2 := 0) (ms2 := 0) (by decide) (by decide) (C_X10_top S7 a0 q9 e10 (qR_mk _ _)) ?_
    change gW _ _ _ _ (.int q9 :: _) _ _ _ _ _
    refine r_ireturn (pc := 32) .int dX10_unhoist_32 rfl rfl ?_
    cases hf
    exact hk
  · rw [if_neg hc] at hf
    refine r_aload_n (pc := 12) dX10_unhoist_12 rfl ?_
    refine r_iconst (pc := 13) (1 : Int32) dX10_unhoist_13 (by decide) ?_
    replace hf := obind hf
    obtain ⟨q11, e12, hf⟩ := hf
    refine q_callV (pc := 14) (v := some (.int q11.1)) (S' := q11.2) mX10_fails 10 [.int (1 : Int32)] dX10_unhoist_14 kX10_186 fX10_fails iX10_fails ⟨by decide, by decide⟩ rfl rfl rfl (Nat.le_of_ble_eq_true rfl) (og e12) (mc1 := 0) (ms1 := 0) (mc2 := 0) (ms2 := 0) (by decide) (by decide) (C_X10_fails S1 a0 (1 : Int32) q11 e12 (qR_mk _ _)) ?_
    change gW _ _ _ _ (.int q11.1 :: _) _ _ _ _ _
    refine r_ireturn (pc := 17) .int dX10_unhoist_17 rfl rfl ?_
    cases hf
    exact hk
def F_X10_line (S : pS) (a0 : Nat) (a1 : Int32) (a2 : Int32) : Option (Int32 × pS) := (oF S a0 10).bind fun _ => (oPI S a0 10 0 (0 : Int32)).bind fun S1 => (F_X10_lines S1 a0).bind fun q3 => (oGI q3 a0 10 41).bind fun x5 => (F_X10_in q3 a1 (0 : Int32) (x5 - (1 : Int32))).bind fun q7 => if ¬ q7 = 0 then (if a2 = (0 : Int32) then ((oGA q3 a0 10 37).bind fun x9 => (oAI q3 x9 .int a1).bind fun x11 => some (x11, q3)) else if a2 = (1 : Int32) then ((oGA q3 a0 10 38).bind fun x13 => (oAI q3 x13 .int a1).bind fun x15 => some (x15, q3)) else if a2 = (2 : Int32) then ((oGA q3 a0 10 39).bind fun x17 => (oAI q3 x17 .int a1).bind fun x19 => some (x19, q3)) else if a2 = (3 : Int32) then ((oGA q3 a0 10 40).bind fun x21 => (oAI q3 x21 .int a1).bind fun x23 => some (x23, q3)) else if a2 = (4 : Int32) then ((F_X10_writes q3 a0 a1).bind fun q25 => some (q25.1, q25.2)) else if a2 = (5 : Int32) then ((oGA q3 a0 10 37).bind fun x27 => (oAI q3 x27 .int a1).bind fun x29 => (F_X10_fits q3 a0 x29).bind fun q31 => if q31 = 0 then (some ((0 : Int32), q3)) else (some ((1 : Int32), q3))) else ((F_X10_fails q3 a0 (2 : Int32)).bind fun q33 => some (q33.1, q33.2))) else ((F_X10_fails q3 a0 (1 : Int32)).bind fun q35 => some (q35.1, q35.2))
set_option maxRecDepth 100000 in
set_option maxHeartbeats 4000000 in
theorem C_X10_line {X : pX} {Q : pO → Nat → pF → Prop} (S : pS) (a0 : Nat) (a1 : Int32) (a2 : Int32) (r : Int32 × pS) (hf : F_X10_line S a0 a1 a2 = some r) (hk : Q (.inl (some (.int r.1))) r.2.1 r.2.2) : gC X mX10_line [.ref a0, .int a1, .int a2] S.1 S.2 Q 0 0 := by
  refine gC_of (by decide) (Nat.le_of_ble_eq_true rfl) rfl ?_
  change gW _ _ _ [some (.ref a0), some (.int a1), some (.int a2)] _ _ _ _ _ _
  unfold F_X10_line at hf
  obtain ⟨_, _, hf⟩ := obind hf
  refine r_aload_n (pc := 0) dX10_line_0 rfl ?_
  refine r_iconst (pc := 1) (0 : Int32) dX10_line_1 (by decide) ?_
  replace hf := obind hf
  obtain ⟨S1, e2, hf⟩ := hf
  refine q_putI (pc := 2) dX10_line_2 pX10_139 rfl e2 ?_
  refine r_aload_n (pc := 5) dX10_line_5 rfl ?_
  replace hf := obind hf
  obtain ⟨q3, e4, hf⟩ := hf
  refine q_callV (pc := 6) (v := none) (S' := q3) mX10_lines 10 [] dX10_line_6 kX10_257 fX10_lines iX10_lines ⟨by decide, by decide⟩ rfl rfl rfl (Nat.le_of_ble_eq_true rfl) (og e4) (mc1 := 0) (ms1 := 0) (mc2 := 0) (ms2 := 0) (by decide) (by decide) (C_X10_lines S1 a0 q3 e4 (qR_mk _ _)) ?_
  refine r_iload_n (pc := 9) dX10_line_9 rfl ?_
  refine r_iconst (pc := 10) (0 : Int32) dX10_line_10 (by decide) ?_
  refine r_aload_n (pc := 11) dX10_line_11 rfl ?_
  replace hf := obind hf
  obtain ⟨x5, e6, hf⟩ := hf
  refine q_getI (pc := 12) dX10_line_12 gX10_260 e6 ?_
  refine r_iconst (pc := 15) (1 : Int32) dX10_line_15 (by decide) ?_
  refine r_isub (pc := 16) dX10_line_16 ?_
  replace hf := obind hf
  obtain ⟨q7, e8, hf⟩ := hf
  refine q_callS (pc := 17) (v := some (.int q7)) (S' := q3) mX10_in [.int a1, .int (0 : Int32), .int (x5 - (1 : Int32))] dX10_line_17 kX10_142 fX10_in sX10_in ⟨by decide, by decide⟩ rfl rfl (Nat.le_of_ble_eq_true rfl) (mc1 := 0) (ms1 := 0) (mc2 := 0) (ms2 := 0) (by decide) (by decide) (C_X10_in q3 a1 (0 : Int32) (x5 - (1 : Int32)) q7 e8 (qR_mk _ _)) ?_
  change gW _ _ _ _ (.int q7 :: _) _ _ _ _ _
  refine r_if_ne (pc := 20) 29 dX10_line_20 (by decide) (fun hc => ?_) (fun hc => ?_)
  · rw [if_pos hc] at hf
    refine r_iload_n (pc := 29) dX10_line_29 rfl ?_
    by_cases hc0 : a2 = (0 : Int32)
    · rw [if_pos hc0] at hf
      refine r_tableIn (pc := 30) 68 dX10_line_30 (by rw [hc0]; decide) (by rw [hc0]; decide) (off := 38) (by rw [hc0]; rfl) (by decide) ?_
      refine r_aload_n (pc := 68) dX10_line_68 rfl ?_
      replace hf := obind hf
      obtain ⟨x9, e10, hf⟩ := hf
      refine q_getA (pc := 69) dX10_line_69 gX10_88 e10 ?_
      refine r_iload_n (pc := 72) dX10_line_72 rfl ?_
      replace hf := obind hf
      obtain ⟨x11, e12, hf⟩ := hf
      refine q_iald (pc := 73) dX10_line_73 e12 ?_
      refine r_ireturn (pc := 74) .int dX10_line_74 rfl rfl ?_
      cases hf
      exact hk
    rw [if_neg hc0] at hf
    by_cases hc1 : a2 = (1 : Int32)
    · rw [if_pos hc1] at hf
      refine r_tableIn (pc := 30) 75 dX10_line_30 (by rw [hc1]; decide) (by rw [hc1]; decide) (off := 45) (by rw [hc1]; rfl) (by decide) ?_
      refine r_aload_n (pc := 75) dX10_line_75 rfl ?_
      replace hf := obind hf
      obtain ⟨x13, e14, hf⟩ := hf
      refine q_getA (pc := 76) dX10_line_76 gX10_91 e14 ?_
      refine r_iload_n (pc := 79) dX10_line_79 rfl ?_
      replace hf := obind hf
      obtain ⟨x15, e16, hf⟩ := hf
      refine q_iald (pc := 80) dX10_line_80 e16 ?_
      refine r_ireturn (pc := 81) .int dX10_line_81 rfl rfl ?_
      cases hf
      exact hk
    rw [if_neg hc1] at hf
    by_cases hc2 : a2 = (2 : Int32)
    · rw [if_pos hc2] at hf
      refine r_tableIn (pc := 30) 82 dX10_line_30 (by rw [hc2]; decide) (by rw [hc2]; decide) (off := 52) (by rw [hc2]; rfl) (by decide) ?_
      refine r_aload_n (pc := 82) dX10_line_82 rfl ?_
      replace hf := obind hf
      obtain ⟨x17, e18, hf⟩ := hf
      refine q_getA (pc := 83) dX10_line_83 gX10_94 e18 ?_
      refine r_iload_n (pc := 86) dX10_line_86 rfl ?_
      replace hf := obind hf
      obtain ⟨x19, e20, hf⟩ := hf
      refine q_iald (pc := 87) dX10_line_87 e20 ?_
      refine r_ireturn (pc := 88) .int dX10_line_88 rfl rfl ?_
      cases hf
      exact hk
    rw [if_neg hc2] at hf
    by_cases hc3 : a2 = (3 : Int32)
    · rw [if_pos hc3] at hf
      refine r_tableIn (pc := 30) 89 dX10_line_30 (by rw [hc3]; decide) (by rw [hc3]; decide) (off := 59) (by rw [hc3]; rfl) (by decide) ?_
      refine r_aload_n (pc := 89) dX10_line_89 rfl ?_
      replace hf := obind hf
      obtain ⟨x21, e22, hf⟩ := hf
      refine q_getA (pc := 90) dX10_line_90 gX10_97 e22 ?_
      refine r_iload_n (pc := 93) dX10_line_93 rfl ?_
      replace hf := obind hf
      obtain ⟨x23, e24, hf⟩ := hf
      refine q_iald (pc := 94) dX10_line_94 e24 ?_
      refine r_ireturn (pc := 95) .int dX10_line_95 rfl rfl ?_
      cases hf
      exact hk
    rw [if_neg hc3] at hf
    by_cases hc4 : a2 = (4 : Int32)
    · rw [if_pos hc4] at hf
      refine r_tableIn (pc := 30) 96 dX10_line_30 (by rw [hc4]; decide) (by rw [hc4]; decide) (off := 66) (by rw [hc4]; rfl) (by decide) ?_
      refine r_aload_n (pc := 96) dX10_line_96 rfl ?_
      refine r_iload_n (pc := 97) dX10_line_97 rfl ?_
      replace hf := obind hf
      obtain ⟨q25, e26, hf⟩ := hf
      refine q_callV (pc := 98) (v := some (.int q25.1)) (S' := q25.2) mX10_writes 10 [.int a1] dX10_line_98 kX10_345 fX10_writes iX10_writes ⟨by decide, by decide⟩ rfl rfl rfl (Nat.le_of_ble_eq_true rfl) (og e26) (mc1 := 0) (ms1 := 0) (mc2 := 0) (ms2 := 0) (by decide) (by decide) (C_X10_writes q3 a0 a1 q25 e26 (qR_mk _ _)) ?_
      change gW _ _ _ _ (.int q25.1 :: _) _ _ _ _ _
      refine r_ireturn (pc := 101) .int dX10_line_101 rfl rfl ?_
      cases hf
      exact hk
    rw [if_neg hc4] at hf
    by_cases hc5 : a2 = (5 : Int32)
    · rw [if_pos hc5] at hf
      refine r_tableIn (pc := 30) 102 dX10_line_30 (by rw [hc5]; decide) (by rw [hc5]; decide) (off := 72) (by rw [hc5]; rfl) (by decide) ?_
      refine r_aload_n (pc := 102) dX10_line_102 rfl ?_
      refine r_aload_n (pc := 103) dX10_line_103 rfl ?_
      replace hf := obind hf
      obtain ⟨x27, e28, hf⟩ := hf
      refine q_getA (pc := 104) dX10_line_104 gX10_88 e28 ?_
      refine r_iload_n (pc := 107) dX10_line_107 rfl ?_
      replace hf := obind hf
      obtain ⟨x29, e30, hf⟩ := hf
      refine q_iald (pc := 108) dX10_line_108 e30 ?_
      replace hf := obind hf
      obtain ⟨q31, e32, hf⟩ := hf
      refine q_callV (pc := 109) (v := some (.int q31)) (S' := q3) mX10_fits 10 [.int x29] dX10_line_109 kX10_282 fX10_fits iX10_fits ⟨by decide, by decide⟩ rfl rfl rfl (Nat.le_of_ble_eq_true rfl) (og e32) (mc1 := 0) (ms1 := 0) (mc2 := 0) (ms2 := 0) (by decide) (by decide) (C_X10_fits q3 a0 x29 q31 e32 (qR_mk _ _)) ?_
      change gW _ _ _ _ (.int q31 :: _) _ _ _ _ _
      refine r_if_eq (pc := 112) 119 dX10_line_112 (by decide) (fun hc => ?_) (fun hc => ?_)
      · rw [if_pos hc] at hf
        refine r_iconst (pc := 119) (0 : Int32) dX10_line_119 (by decide) ?_
        refine r_ireturn (pc := 120) .int dX10_line_120 rfl rfl ?_
        cases hf
        exact hk
      · rw [if_neg hc] at hf
        refine r_iconst (pc := 115) (1 : Int32) dX10_line_115 (by decide) ?_
        refine r_goto (pc := 116) 120 dX10_line_116 (by decide) ?_
        refine r_ireturn (pc := 120) .int dX10_line_120 rfl rfl ?_
        cases hf
        exact hk
    rw [if_neg hc5] at hf
    refine r_tableOut (pc := 30) 121 dX10_line_30 (by
      have := tsw_out a2 (0) 6 (fun j hj => by
        match j, hj with
        | 0, _ => exact hc0
        | 1, _ => exact hc1
        | 2, _ => exact hc2
        | 3, _ => exact hc3
        | 4, _ => exact hc4
        | 5, _ => exact hc5
        | j + 6, hj => exact absurd hj (by omega))
      simpa using this) (by decide) ?_
    refine r_aload_n (pc := 121) dX10_line_121 rfl ?_
    refine r_iconst (pc := 122) (2 : Int32) dX10_line_122 (by decide) ?_
    replace hf := obind hf
    obtain ⟨q33, e34, hf⟩ := hf
    refine q_callV (pc := 123) (v := some (.int q33.1)) (S' := q33.2) mX10_fails 10 [.int (2 : Int32)] dX10_line_123 kX10_186 fX10_fails iX10_fails ⟨by decide, by decide⟩ rfl rfl rfl (Nat.le_of_ble_eq_true rfl) (og e34) (mc1 := 0) (ms1 := 0) (mc2 := 0) (ms2 := 0) (by decide) (by decide) (C_X10_fails q3 a0 (2 : Int32) q33 e34 (qR_mk _ _)) ?_
    change gW _ _ _ _ (.int q33.1 :: _) _ _ _ _ _
    refine r_ireturn (pc := 126) .int dX10_line_126 rfl rfl ?_
    cases hf
    exact hk
  · rw [if_neg hc] at hf
    refine r_aload_n (pc := 23) dX10_line_23 rfl ?_
    refine r_iconst (pc := 24) (1 : Int32) dX10_line_24 (by decide) ?_
    replace hf := obind hf
    obtain ⟨q35, e36, hf⟩ := hf
    refine q_callV (pc := 25) (v := some (.int q35.1)) (S' := q35.2) mX10_fails 10 [.int (1 : Int32)] dX10_line_25 kX10_186 fX10_fails iX10_fails ⟨by decide, by decide⟩ rfl rfl rfl (Nat.le_of_ble_eq_true rfl) (og e36) (mc1 := 0) (ms1 := 0) (mc2 := 0) (ms2 := 0) (by decide) (by decide) (C_X10_fails q3 a0 (1 : Int32) q35 e36 (qR_mk _ _)) ?_
    change gW _ _ _ _ (.int q35.1 :: _) _ _ _ _ _
    refine r_ireturn (pc := 28) .int dX10_line_28 rfl rfl ?_
    cases hf
    exact hk
def F_X10_path_43 (S : pS) (l0 : Nat) (l2 : Int32) (t0 : Nat) (t1 : Int32) : Option (Int32 × pS) := (oPI S t0 10 0 t1).bind fun S11 => (oGI S11 l0 10 0).bind fun x13 => if x13 ≤ 0 then ((oGA S11 l0 10 45).bind fun x15 => (oAI S11 x15 .int l2).bind fun x17 => (oC ((x17.toUInt32 % 65536).toInt32)).bind fun x19 => some (x19, S11)) else ((oC (0 : Int32)).bind fun x21 => some (x21, S11))
set_option maxRecDepth 100000 in
set_option maxHeartbeats 4000000 in
theorem W_X10_path_43 {X : pX} {Q : pO → Nat → pF → Prop} (S : pS) (l0 : Nat) (l2 : Int32) (t0 : Nat) (t1 : Int32) (r : Int32 × pS) (hf : F_X10_path_43 S l0 l2 t0 t1 = some r) (hk : Q (.inl (some (.int r.1))) r.2.1 r.2.2) : gW X mX10_path 43 [some (.ref l0), none, some (.int l2)] [.int t1, .ref t0] S.1 S.2 Q 0 0 := by
  unfold F_X10_path_43 at hf
  replace hf := obind hf
  obtain ⟨S11, e12, hf⟩ := hf
  refine q_putI (pc := 43) dX10_path_43 pX10_139 rfl e12 ?_
  refine r_aload_n (pc := 46) dX10_path_46 rfl ?_
  replace hf := obind hf
  obtain ⟨x13, e14, hf⟩ := hf
  refine q_getI (pc := 47) dX10_path_47 gX10_139 e14 ?_
  refine r_if_le (pc := 50) 57 dX10_path_50 (by decide) (fun hc => ?_) (fun hc => ?_)
  · rw [if_pos hc] at hf
    refine r_aload_n (pc := 57) dX10_path_57 rfl ?_
    replace hf := obind hf
    obtain ⟨x15, e16, hf⟩ := hf
    refine q_getA (pc := 58) dX10_path_58 gX10_109 e16 ?_
    refine r_iload_n (pc := 61) dX10_path_61 rfl ?_
    replace hf := obind hf
    obtain ⟨x17, e18, hf⟩ := hf
    refine q_iald (pc := 62) dX10_path_62 e18 ?_
    refine r_i2c (pc := 63) dX10_path_63 ?_
    replace hf := obind hf
    obtain ⟨x19, e20, hf⟩ := hf
    obtain ⟨e20a, e20b⟩ := oC_some e20
    rw [e20a] at hf
    refine r_ireturn (pc := 64) .char dX10_path_64 rfl e20b ?_
    cases hf
    exact hk
  · rw [if_neg hc] at hf
    refine r_iconst (pc := 53) (0 : Int32) dX10_path_53 (by decide) ?_
    refine r_goto (pc := 54) 64 dX10_path_54 (by decide) ?_
    replace hf := obind hf
    obtain ⟨x21, e22, hf⟩ := hf
    obtain ⟨e22a, e22b⟩ := oC_some e22
    rw [e22a] at hf
    refine r_ireturn (pc := 64) .char dX10_path_64 rfl e22b ?_
    cases hf
    exact hk
def F_X10_path (S : pS) (a0 : Nat) (a1 : Int32) (a2 : Int32) : Option (Int32 × pS) := (oF S a0 10).bind fun _ => (F_X10_lines S a0).bind fun q1 => (oGI q1 a0 10 41).bind fun x3 => (F_X10_in q1 a1 (0 : Int32) (x3 - (1 : Int32))).bind fun q5 => if ¬ q5 = 0 then ((F_X10_writes q1 a0 a1).bind fun q7 => (F_X10_in q7.2 a2 (0 : Int32) (q7.1 - (1 : Int32))).bind fun q9 => if ¬ q9 = 0 then (F_X10_path_43 q7.2 a0 a2 a0 (0 : Int32)) else (F_X10_path_43 q7.2 a0 a2 a0 (2 : Int32))) else (F_X10_path_43 q1 a0 a2 a0 (1 : Int32))
set_option maxRecDepth 100000 in
set_option maxHeartbeats 4000000 in
theorem C_X10_path {X : pX} {Q : pO → Nat → pF → Prop} (S : pS) (a0 : Nat) (a1 : Int32) (a2 : Int32) (r : Int32 × pS) (hf : F_X10_path S a0 a1 a2 = some r) (hk : Q (.inl (some (.int r.1))) r.2.1 r.2.2) : gC X mX10_path [.ref a0, .int a1, .int a2] S.1 S.2 Q 0 0 := by
  refine gC_of (by decide) (Nat.le_of_ble_eq_true rfl) rfl ?_
  change gW _ _ _ [some (.ref a0), some (.int a1), some (.int a2)] _ _ _ _ _ _
  unfold F_X10_path at hf
  obtain ⟨_, _, hf⟩ := obind hf
  refine r_aload_n (pc := 0) dX10_path_0 rfl ?_
  replace hf := obind hf
  obtain ⟨q1, e2, hf⟩ := hf
  refine q_callV (pc := 1) (v := none) (S' := q1) mX10_lines 10 [] dX10_path_1 kX10_257 fX10_lines iX10_lines ⟨by decide, by decide⟩ rfl rfl rfl (Nat.le_of_ble_eq_true rfl) (og e2) (mc1 := 0) (ms1 := 0) (mc2 := 0) (ms2 := 0) (by decide) (by decide) (C_X10_lines S a0 q1 e2 (qR_mk _ _)) ?_
  refine r_aload_n (pc := 4) dX10_path_4 rfl ?_
  refine r_iload_n (pc := 5) dX10_path_5 rfl ?_
  refine r_iconst (pc := 6) (0 : Int32) dX10_path_6 (by decide) ?_
  refine r_aload_n (pc := 7) dX10_path_7 rfl ?_
  replace hf := obind hf
  obtain ⟨x3, e4, hf⟩ := hf
  refine q_getI (pc := 8) dX10_path_8 gX10_260 e4 ?_
  refine r_iconst (pc := 11) (1 : Int32) dX10_path_11 (by decide) ?_
  refine r_isub (pc := 12) dX10_path_12 ?_
  replace hf := obind hf
  obtain ⟨q5, e6, hf⟩ := hf
  refine q_callS (pc := 13) (v := some (.int q5)) (S' := q1) mX10_in [.int a1, .int (0 : Int32), .int (x3 - (1 : Int32))] dX10_path_13 kX10_142 fX10_in sX10_in ⟨by decide, by decide⟩ rfl rfl (Nat.le_of_ble_eq_true rfl) (mc1 := 0) (ms1 := 0) (mc2 := 0) (ms2 := 0) (by decide) (by decide) (C_X10_in q1 a1 (0 : Int32) (x3 - (1 : Int32)) q5 e6 (qR_mk _ _)) ?_
  change gW _ _ _ _ (.int q5 :: _) _ _ _ _ _
  refine r_if_ne (pc := 16) 23 dX10_path_16 (by decide) (fun hc => ?_) (fun hc => ?_)
  · rw [if_pos hc] at hf
    refine r_iload_n (pc := 23) dX10_path_23 rfl ?_
    refine r_iconst (pc := 24) (0 : Int32) dX10_path_24 (by decide) ?_
    refine r_aload_n (pc := 25) dX10_path_25 rfl ?_
    refine r_iload_n (pc := 26) dX10_path_26 rfl ?_
    replace hf := obind hf
    obtain ⟨q7, e8, hf⟩ := hf
    refine q_callV (pc := 27) (v := some (.int q7.1)) (S' := q7.2) mX10_writes 10 [.int a1] dX10_path_27 kX10_345 fX10_writes iX10_writes ⟨by decide, by decide⟩ rfl rfl rfl (Nat.le_of_ble_eq_true rfl) (og e8) (mc1 := 0) (ms1 := 0) (mc2 := 0) (ms2 := 0) (by decide) (by decide) (C_X10_writes q1 a0 a1 q7 e8 (qR_mk _ _)) ?_
    change gW _ _ _ _ (.int q7.1 :: _) _ _ _ _ _
    refine r_iconst (pc := 30) (1 : Int32) dX10_path_30 (by decide) ?_
    refine r_isub (pc := 31) dX10_path_31 ?_
    replace hf := obind hf
    obtain ⟨q9, e10, hf⟩ := hf
    refine q_callS (pc := 32) (v := some (.int q9)) (S' := q7.2) mX10_in [.int a2, .int (0 : Int32), .int (q7.1 - (1 : Int32))] dX10_path_32 kX10_142 fX10_in sX10_in ⟨by decide, by decide⟩ rfl rfl (Nat.le_of_ble_eq_true rfl) (mc1 := 0) (ms1 := 0) (mc2 := 0) (ms2 := 0) (by decide) (by decide) (C_X10_in q7.2 a2 (0 : Int32) (q7.1 - (1 : Int32)) q9 e10 (qR_mk _ _)) ?_
    change gW _ _ _ _ (.int q9 :: _) _ _ _ _ _
    refine r_if_ne (pc := 35) 42 dX10_path_35 (by decide) (fun hc => ?_) (fun hc => ?_)
    · rw [if_pos hc] at hf
      refine r_iconst (pc := 42) (0 : Int32) dX10_path_42 (by decide) ?_
      refine gW.mono (mc := 0) (ms := 0) ?_ (fun _ _ _ q => q) (by decide) (by decide)
      exact gW.weak (by simp [gle]) (W_X10_path_43 q7.2 a0 a2 a0 (0 : Int32) r hf hk)
    · rw [if_neg hc] at hf
      refine r_iconst (pc := 38) (2 : Int32) dX10_path_38 (by decide) ?_
      refine r_goto (pc := 39) 43 dX10_path_39 (by decide) ?_
      refine gW.mono (mc := 0) (ms := 0) ?_ (fun _ _ _ q => q) (by decide) (by decide)
      exact gW.weak (by simp [gle]) (W_X10_path_43 q7.2 a0 a2 a0 (2 : Int32) r hf hk)
  · rw [if_neg hc] at hf
    refine r_iconst (pc := 19) (1 : Int32) dX10_path_19 (by decide) ?_
    refine r_goto (pc := 20) 43 dX10_path_20 (by decide) ?_
    refine gW.mono (mc := 0) (ms := 0) ?_ (fun _ _ _ q => q) (by decide) (by decide)
    exact gW.weak (by simp [gle]) (W_X10_path_43 q1 a0 a2 a0 (1 : Int32) r hf hk)
abbrev L_X10_lineOf_11 (l0 : Nat) (l1 : Int32) (S : pS) : Int32 → List (Option Value) := fun a => [some (.ref l0), some (.int l1), some (.int a)]
abbrev s_X10_lineOf_11 (l0 : Nat) (l1 : Int32) (S : pS) : Int32 → pS := fun a => S
abbrev K_X10_lineOf_11 (X : pX) (Q : pO → Nat → pF → Prop) (mc ms : Nat) (l0 : Nat) (l1 : Int32) (S : pS) : (Int32) ⊕ (Unit) → Prop := (Sum.elim (fun b => gW X mX10_lineOf 29 [some (.ref l0), some (.int l1), some (.int b)] [] S.1 S.2 Q mc ms) (fun b => gW X mX10_lineOf 37 [some (.ref l0), some (.int l1), none] [] S.1 S.2 Q mc ms))
def F_X10_lineOf_11 (l0 : Nat) (l1 : Int32) (S : pS) : Int32 → Option ((Int32) ⊕ ((Int32) ⊕ (Unit))) := fun a => (oGI S l0 10 41).bind fun x5 => if x5 ≤ a then (some (.inr (.inr ()))) else ((oGA S l0 10 37).bind fun x7 => (oAI S x7 .int a).bind fun x9 => if ¬ x9 = l1 then (some (.inl (a + (1 : Int32)))) else (some (.inr (.inl a))))
set_option maxRecDepth 100000 in
set_option maxHeartbeats 4000000 in
theorem W_X10_lineOf_11 {X : pX} {Q : pO → Nat → pF → Prop} {mc ms : Nat} (l0 : Nat) (l1 : Int32) (S : pS) : ∀ (a : Int32) (r : (Int32) ⊕ ((Int32) ⊕ (Unit))), F_X10_lineOf_11 l0 l1 S a = some r → Sum.elim (fun a' => gW X mX10_lineOf 11 (L_X10_lineOf_11 l0 l1 S a') [] (s_X10_lineOf_11 l0 l1 S a').1 (s_X10_lineOf_11 l0 l1 S a').2 Q mc ms) (K_X10_lineOf_11 X Q mc ms l0 l1 S) r → gW X mX10_lineOf 11 (L_X10_lineOf_11 l0 l1 S a) [] (s_X10_lineOf_11 l0 l1 S a).1 (s_X10_lineOf_11 l0 l1 S a).2 Q mc ms := by
  intro l2 r hf hk
  unfold F_X10_lineOf_11 at hf
  try dsimp only at hf
  change gW _ _ _ [some (.ref l0), some (.int l1), some (.int l2)] _ S.1 S.2 _ _ _
  refine r_iload_n (pc := 11) dX10_lineOf_11 rfl ?_
  refine r_aload_n (pc := 12) dX10_lineOf_12 rfl ?_
  replace hf := obind hf
  obtain ⟨x5, e6, hf⟩ := hf
  refine q_getI (pc := 13) dX10_lineOf_13 gX10_260 e6 ?_
  refine r_icmp_ge (pc := 16) 37 dX10_lineOf_16 (by decide) (fun hc => ?_) (fun hc => ?_)
  · rw [if_pos hc] at hf
    cases hf
    exact gW.weak (by simp [gle]) hk
  · rw [if_neg hc] at hf
    refine r_aload_n (pc := 19) dX10_lineOf_19 rfl ?_
    replace hf := obind hf
    obtain ⟨x7, e8, hf⟩ := hf
    refine q_getA (pc := 20) dX10_lineOf_20 gX10_88 e8 ?_
    refine r_iload_n (pc := 23) dX10_lineOf_23 rfl ?_
    replace hf := obind hf
    obtain ⟨x9, e10, hf⟩ := hf
    refine q_iald (pc := 24) dX10_lineOf_24 e10 ?_
    refine r_iload_n (pc := 25) dX10_lineOf_25 rfl ?_
    refine r_icmp_ne (pc := 26) 31 dX10_lineOf_26 (by decide) (fun hc => ?_) (fun hc => ?_)
    · rw [if_pos hc] at hf
      refine r_iinc (pc := 31) dX10_lineOf_31 rfl (by decide) ?_
      change gW _ _ _ [some (.ref l0), some (.int l1), some (.int (l2 + (1 : Int32)))] _ _ _ _ _ _
      refine r_goto (pc := 34) 11 dX10_lineOf_34 (by decide) ?_
      cases hf
      exact gW.weak (by simp [gle]) hk
    · rw [if_neg hc] at hf
      cases hf
      exact gW.weak (by simp [gle]) hk
def F_X10_lineOf (S : pS) (a0 : Nat) (a1 : Int32) : Option (Int32 × pS) := (oF S a0 10).bind fun _ => (oPI S a0 10 0 (0 : Int32)).bind fun S1 => (F_X10_lines S1 a0).bind fun q3 => (iter (F_X10_lineOf_11 a0 a1 q3) fu (0 : Int32)).bind fun r11 => Sum.elim (fun q13 => some (q13, q3)) (fun q13 => some ((-1 : Int32), q3)) r11
set_option maxRecDepth 100000 in
set_option maxHeartbeats 4000000 in
theorem C_X10_lineOf {X : pX} {Q : pO → Nat → pF → Prop} (S : pS) (a0 : Nat) (a1 : Int32) (r : Int32 × pS) (hf : F_X10_lineOf S a0 a1 = some r) (hk : Q (.inl (some (.int r.1))) r.2.1 r.2.2) : gC X mX10_lineOf [.ref a0, .int a1] S.1 S.2 Q 0 0 := by
  refine gC_of (by decide) (Nat.le_of_ble_eq_true rfl) rfl ?_
  change gW _ _ _ [some (.ref a0), some (.int a1), none] _ _ _ _ _ _
  unfold F_X10_lineOf at hf
  obtain ⟨_, _, hf⟩ := obind hf
  refine r_aload_n (pc := 0) dX10_lineOf_0 rfl ?_
  refine r_iconst (pc := 1) (0 : Int32) dX10_lineOf_1 (by decide) ?_
  replace hf := obind hf
  obtain ⟨S1, e2, hf⟩ := hf
  refine q_putI (pc := 2) dX10_lineOf_2 pX10_139 rfl e2 ?_
  refine r_aload_n (pc := 5) dX10_lineOf_5 rfl ?_
  replace hf := obind hf
  obtain ⟨q3, e4, hf⟩ := hf
  refine q_callV (pc := 6) (v := none) (S' := q3) mX10_lines 10 [] dX10_lineOf_6 kX10_257 fX10_lines iX10_lines ⟨by decide, by decide⟩ rfl rfl rfl (Nat.le_of_ble_eq_true rfl) (og e4) (mc1 := 0) (ms1 := 0) (mc2 := 0) (ms2 := 0) (by decide) (by decide) (C_X10_lines S1 a0 q3 e4 (qR_mk _ _)) ?_
  refine r_iconst (pc := 9) (0 : Int32) dX10_lineOf_9 (by decide) ?_
  refine r_istore_n (pc := 10) dX10_lineOf_10 (by decide) ?_
  change gW _ _ _ [some (.ref a0), some (.int a1), some (.int (0 : Int32))] _ _ _ _ _ _
  replace hf := obind hf
  obtain ⟨r11, e12, hf⟩ := hf
  refine gW.weak (ls' := [some (.ref a0), some (.int a1), some (.int (0 : Int32))]) (by simp [gle]) ?_
  refine g_iter (L := L_X10_lineOf_11 a0 a1 q3) (s := s_X10_lineOf_11 a0 a1 q3) (K := K_X10_lineOf_11 X Q _ _ a0 a1 q3) (W_X10_lineOf_11 a0 a1 q3) fu (0 : Int32) _ e12 ?_
  rcases r11 with q13 | q13
  · simp only [Sum.elim_inl, Sum.elim_inr] at hf
    show gW _ _ 29 [some (.ref a0), some (.int a1), some (.int q13)] [] q3.1 q3.2 _ _ _
    refine r_iload_n (pc := 29) dX10_lineOf_29 rfl ?_
    refine r_ireturn (pc := 30) .int dX10_lineOf_30 rfl rfl ?_
    cases hf
    exact hk
  · simp only [Sum.elim_inl, Sum.elim_inr] at hf
    show gW _ _ 37 [some (.ref a0), some (.int a1), none] [] q3.1 q3.2 _ _ _
    refine r_iconst (pc := 37) (-1 : Int32) dX10_lineOf_37 (by decide) ?_
    refine r_ireturn (pc := 38) .int dX10_lineOf_38 rfl rfl ?_
    cases hf
    exact hk
def F_X10_levelMost (S : pS) (a0 : Nat) : Option (Int32) := (oF S a0 10).bind fun _ => (oGI S a0 10 54).bind fun x1 => if ¬ x1 = 0 then ((oGA S a0 10 52).bind fun x3 => (oGI S a0 10 54).bind fun x5 => (oAI S x3 .int (x5 - (1 : Int32))).bind fun x7 => if x7 = (-1 : Int32) then ((oGA S a0 10 46).bind fun x9 => (oGI S a0 10 54).bind fun x11 => (oAI S x9 .int (x11 - (1 : Int32))).bind fun x13 => some (x13 + (1 : Int32))) else ((oGA S a0 10 46).bind fun x15 => (oGI S a0 10 54).bind fun x17 => (oAI S x15 .int (x17 - (1 : Int32))).bind fun x19 => some x19)) else (some (0 : Int32))
set_option maxRecDepth 100000 in
set_option maxHeartbeats 4000000 in
theorem C_X10_levelMost {X : pX} {Q : pO → Nat → pF → Prop} (S : pS) (a0 : Nat) (r : Int32) (hf : F_X10_levelMost S a0 = some r) (hk : Q (.inl (some (.int r))) S.1 S.2) : gC X mX10_levelMost [.ref a0] S.1 S.2 Q 0 0 := by
  refine gC_of (by decide) (Nat.le_of_ble_eq_true rfl) rfl ?_
  change gW _ _ _ [some (.ref a0)] _ _ _ _ _ _
  unfold F_X10_levelMost at hf
  obtain ⟨_, _, hf⟩ := obind hf
  refine r_aload_n (pc := 0) dX10_levelMost_0 rfl ?_
  replace hf := obind hf
  obtain ⟨x1, e2, hf⟩ := hf
  refine q_getI (pc := 1) dX10_levelMost_1 gX10_348 e2 ?_
  refine r_if_ne (pc := 4) 11 dX10_levelMost_4 (by decide) (fun hc => ?_) (fun hc => ?_)
  · rw [if_pos hc] at hf
    refine r_aload_n (pc := 11) dX10_levelMost_11 rfl ?_
    replace hf := obind hf
    obtain ⟨x3, e4, hf⟩ := hf
    refine q_getA (pc := 12) dX10_levelMost_12 gX10_130 e4 ?_
    refine r_aload_n (pc := 15) dX10_levelMost_15 rfl ?_
    replace hf := obind hf
    obtain ⟨x5, e6, hf⟩ := hf
    refine q_getI (pc := 16) dX10_levelMost_16 gX10_348 e6 ?_
    refine r_iconst (pc := 19) (1 : Int32) dX10_levelMost_19 (by decide) ?_
    refine r_isub (pc := 20) dX10_levelMost_20 ?_
    replace hf := obind hf
    obtain ⟨x7, e8, hf⟩ := hf
    refine q_iald (pc := 21) dX10_levelMost_21 e8 ?_
    refine r_iconst (pc := 22) (-1 : Int32) dX10_levelMost_22 (by decide) ?_
    refine r_icmp_eq (pc := 23) 40 dX10_levelMost_23 (by decide) (fun hc => ?_) (fun hc => ?_)
    · rw [if_pos hc] at hf
      refine r_aload_n (pc := 40) dX10_levelMost_40 rfl ?_
      replace hf := obind hf
      obtain ⟨x9, e10, hf⟩ := hf
      refine q_getA (pc := 41) dX10_levelMost_41 gX10_112 e10 ?_
      refine r_aload_n (pc := 44) dX10_levelMost_44 rfl ?_
      replace hf := obind hf
      obtain ⟨x11, e12, hf⟩ := hf
      refine q_getI (pc := 45) dX10_levelMost_45 gX10_348 e12 ?_
      refine r_iconst (pc := 48) (1 : Int32) dX10_levelMost_48 (by decide) ?_
      refine r_isub (pc := 49) dX10_levelMost_49 ?_
      replace hf := obind hf
      obtain ⟨x13, e14, hf⟩ := hf
      refine q_iald (pc := 50) dX10_levelMost_50 e14 ?_
      refine r_iconst (pc := 51) (1 : Int32) dX10_levelMost_51 (by decide) ?_
      refine r_iadd (pc := 52) dX10_levelMost_52 ?_
      refine r_ireturn (pc := 53) .int dX10_levelMost_53 rfl rfl ?_
      cases hf
      exact hk
    · rw [if_neg hc] at hf
      refine r_aload_n (pc := 26) dX10_levelMost_26 rfl ?_
      replace hf := obind hf
      obtain ⟨x15, e16, hf⟩ := hf
      refine q_getA (pc := 27) dX10_levelMost_27 gX10_112 e16 ?_
      refine r_aload_n (pc := 30) dX10_levelMost_30 rfl ?_
      replace hf := obind hf
      obtain ⟨x17, e18, hf⟩ := hf
      refine q_getI (pc := 31) dX10_levelMost_31 gX10_348 e18 ?_
      refine r_iconst (pc := 34) (1 : Int32) dX10_levelMost_34 (by decide) ?_
      refine r_isub (pc := 35) dX10_levelMost_35 ?_
      replace hf := obind hf
      obtain ⟨x19, e20, hf⟩ := hf
      refine q_iald (pc := 36) dX10_levelMost_36 e20 ?_
      refine r_goto (pc := 37) 53 dX10_levelMost_37 (by decide) ?_
      refine r_ireturn (pc := 53) .int dX10_levelMost_53 rfl rfl ?_
      cases hf
      exact hk
  · rw [if_neg hc] at hf
    refine r_iconst (pc := 7) (0 : Int32) dX10_levelMost_7 (by decide) ?_
    refine r_goto (pc := 8) 53 dX10_levelMost_8 (by decide) ?_
    refine r_ireturn (pc := 53) .int dX10_levelMost_53 rfl rfl ?_
    cases hf
    exact hk
