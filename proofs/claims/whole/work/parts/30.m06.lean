def F_X9_needItem (S : pS) (a0 : Nat) (a1 : Int32) : Option ((pS) ⊕ (String × pS)) := (oF S a0 9).bind fun _ => (oGA S a0 9 0).bind fun x1 => (F_X8_holds S x1 a1).bind fun q3 => if ¬ q3 = 0 then (some (.inl S)) else (some (.inr ("java/util/NoSuchElementException", S)))
set_option maxRecDepth 100000 in
set_option maxHeartbeats 4000000 in
theorem C_X9_needItem {X : pX} {Q : pO → Nat → pF → Prop} (S : pS) (a0 : Nat) (a1 : Int32) (r : (pS) ⊕ (String × pS)) (hf : F_X9_needItem S a0 a1 = some r) (hk : Sum.elim (fun q => Q (.inl none) q.1 q.2) (fun q => ∀ n', q.2.1 ≤ n' → Q (.inr q.1) n' (gjunk q.2.2 q.2.1)) r) : gC X mX9_needItem [.ref a0, .int a1] S.1 S.2 Q 1 6 := by
  refine gC_of (by decide) (Nat.le_of_ble_eq_true rfl) rfl ?_
  change gW _ _ _ [some (.ref a0), some (.int a1)] _ _ _ _ _ _
  unfold F_X9_needItem at hf
  obtain ⟨_, _, hf⟩ := obind hf
  refine r_aload_n (pc := 0) dX9_needItem_0 rfl ?_
  replace hf := obind hf
  obtain ⟨x1, e2, hf⟩ := hf
  refine q_getA (pc := 1) dX9_needItem_1 gX9_12 e2 ?_
  refine r_iload_n (pc := 4) dX9_needItem_4 rfl ?_
  replace hf := obind hf
  obtain ⟨q3, e4, hf⟩ := hf
  refine q_callV (pc := 5) (v := some (.int q3)) (S' := S) mX8_holds 8 [.int a1] dX9_needItem_5 kX9_401 fX8_holds iX8_holds ⟨by decide, by decide⟩ rfl rfl rfl (Nat.le_of_ble_eq_true rfl) (og e4) (mc1 := 0) (ms1 := 0) (mc2 := 1) (ms2 := 6) (by decide) (by decide) (C_X8_holds S x1 a1 q3 e4 (qR_mk _ _)) ?_
  change gW _ _ _ _ (.int q3 :: _) _ _ _ _ _
  refine r_if_ne (pc := 8) 22 dX9_needItem_8 (by decide) (fun hc => ?_) (fun hc => ?_)
  · rw [if_pos hc] at hf
    refine r_return (pc := 22) dX9_needItem_22 rfl ?_
    cases hf
    exact hk
  · rw [if_neg hc] at hf
    refine r_throwNW (pc := 11) "java/util/NoSuchElementException" 10 dX9_needItem_11 dX9_needItem_14 dX9_needItem_15 dX9_needItem_18 dX9_needItem_21 xX9_404_408 rfl ⟨by decide, Nat.le_of_ble_eq_true rfl⟩ (by decide) (by decide) ?_
    cases hf
    exact hk
def F_X9_needGap_9 (S : pS) : Option ((pS) ⊕ (String × pS)) := some (.inr ("java/lang/IndexOutOfBoundsException", S))
set_option maxRecDepth 100000 in
set_option maxHeartbeats 4000000 in
theorem W_X9_needGap_9 {X : pX} {Q : pO → Nat → pF → Prop} (S : pS) (r : (pS) ⊕ (String × pS)) (hf : F_X9_needGap_9 S = some r) (hk : Sum.elim (fun q => Q (.inl none) q.1 q.2) (fun q => ∀ n', q.2.1 ≤ n' → Q (.inr q.1) n' (gjunk q.2.2 q.2.1)) r) : gW X mX9_needGap 9 [none, none, none] [] S.1 S.2 Q 1 6 := by
  unfold F_X9_needGap_9 at hf
  refine r_throwW (pc := 9) "java/lang/IndexOutOfBoundsException" 11 dX9_needGap_9 dX9_needGap_12 dX9_needGap_13 dX9_needGap_16 dX9_needGap_19 xX9_206_210 rfl ⟨by decide, Nat.le_of_ble_eq_true rfl⟩ (by decide) (by decide) ?_
  cases hf
  exact hk
def F_X9_needGap (S : pS) (a0 : Nat) (a1 : Int32) (a2 : Int32) : Option ((pS) ⊕ (String × pS)) := (oF S a0 9).bind fun _ => if a1 < 0 then (F_X9_needGap_9 S) else (if a1 ≤ a2 then (some (.inl S)) else (F_X9_needGap_9 S))
set_option maxRecDepth 100000 in
set_option maxHeartbeats 4000000 in
theorem C_X9_needGap {X : pX} {Q : pO → Nat → pF → Prop} (S : pS) (a0 : Nat) (a1 : Int32) (a2 : Int32) (r : (pS) ⊕ (String × pS)) (hf : F_X9_needGap S a0 a1 a2 = some r) (hk : Sum.elim (fun q => Q (.inl none) q.1 q.2) (fun q => ∀ n', q.2.1 ≤ n' → Q (.inr q.1) n' (gjunk q.2.2 q.2.1)) r) : gC X mX9_needGap [.ref a0, .int a1, .int a2] S.1 S.2 Q 1 6 := by
  refine gC_of (by decide) (Nat.le_of_ble_eq_true rfl) rfl ?_
  change gW _ _ _ [some (.ref a0), some (.int a1), some (.int a2)] _ _ _ _ _ _
  unfold F_X9_needGap at hf
  obtain ⟨_, _, hf⟩ := obind hf
  refine r_iload_n (pc := 0) dX9_needGap_0 rfl ?_
  refine r_if_lt (pc := 1) 9 dX9_needGap_1 (by decide) (fun hc => ?_) (fun hc => ?_)
  · rw [if_pos hc] at hf
    refine gW.mono (mc := 1) (ms := 6) ?_ (fun _ _ _ q => q) (by decide) (by decide)
    exact gW.weak (by simp [gle]) (W_X9_needGap_9 S r hf hk)
  · rw [if_neg hc] at hf
    refine r_iload_n (pc := 4) dX9_needGap_4 rfl ?_
    refine r_iload_n (pc := 5) dX9_needGap_5 rfl ?_
    refine r_icmp_le (pc := 6) 20 dX9_needGap_6 (by decide) (fun hc => ?_) (fun hc => ?_)
    · rw [if_pos hc] at hf
      refine r_return (pc := 20) dX9_needGap_20 rfl ?_
      cases hf
      exact hk
    · rw [if_neg hc] at hf
      refine gW.mono (mc := 1) (ms := 6) ?_ (fun _ _ _ q => q) (by decide) (by decide)
      exact gW.weak (by simp [gle]) (W_X9_needGap_9 S r hf hk)
def F_X9_failText (S : pS) (a0 : Nat) : Option ((pS) ⊕ (String × pS)) := (oF S a0 9).bind fun _ => (oGA S a0 9 10).bind fun x1 => (F_X7_position S x1).bind fun q3 => (oPI S a0 9 15 q3).bind fun S5 => (oGA S5 a0 9 10).bind fun x7 => (F_X7_forget S5 x7).bind fun q9 => some (.inr ("java/lang/IllegalArgumentException", q9))
set_option maxRecDepth 100000 in
set_option maxHeartbeats 4000000 in
theorem C_X9_failText {X : pX} {Q : pO → Nat → pF → Prop} (S : pS) (a0 : Nat) (r : (pS) ⊕ (String × pS)) (hf : F_X9_failText S a0 = some r) (hk : Sum.elim (fun q => Q (.inl none) q.1 q.2) (fun q => ∀ n', q.2.1 ≤ n' → Q (.inr q.1) n' (gjunk q.2.2 q.2.1)) r) : gC X mX9_failText [.ref a0] S.1 S.2 Q 1 6 := by
  refine gC_of (by decide) (Nat.le_of_ble_eq_true rfl) rfl ?_
  change gW _ _ _ [some (.ref a0)] _ _ _ _ _ _
  unfold F_X9_failText at hf
  obtain ⟨_, _, hf⟩ := obind hf
  refine r_aload_n (pc := 0) dX9_failText_0 rfl ?_
  refine r_aload_n (pc := 1) dX9_failText_1 rfl ?_
  replace hf := obind hf
  obtain ⟨x1, e2, hf⟩ := hf
  refine q_getA (pc := 2) dX9_failText_2 gX9_66 e2 ?_
  replace hf := obind hf
  obtain ⟨q3, e4, hf⟩ := hf
  refine q_callV (pc := 5) (v := some (.int q3)) (S' := S) mX7_position 7 [] dX9_failText_5 kX9_417 fX7_position iX7_position ⟨by decide, by decide⟩ rfl rfl rfl (Nat.le_of_ble_eq_true rfl) (og e4) (mc1 := 0) (ms1 := 0) (mc2 := 1) (ms2 := 6) (by decide) (by decide) (C_X7_position S x1 q3 e4 (qR_mk _ _)) ?_
  change gW _ _ _ _ (.int q3 :: _) _ _ _ _ _
  replace hf := obind hf
  obtain ⟨S5, e6, hf⟩ := hf
  refine q_putI (pc := 8) dX9_failText_8 pX9_93 rfl e6 ?_
  refine r_aload_n (pc := 11) dX9_failText_11 rfl ?_
  replace hf := obind hf
  obtain ⟨x7, e8, hf⟩ := hf
  refine q_getA (pc := 12) dX9_failText_12 gX9_66 e8 ?_
  replace hf := obind hf
  obtain ⟨q9, e10, hf⟩ := hf
  refine q_callV (pc := 15) (v := none) (S' := q9) mX7_forget 7 [] dX9_failText_15 kX9_354 fX7_forget iX7_forget ⟨by decide, by decide⟩ rfl rfl rfl (Nat.le_of_ble_eq_true rfl) (og e10) (mc1 := 0) (ms1 := 0) (mc2 := 1) (ms2 := 6) (by decide) (by decide) (C_X7_forget S5 x7 q9 e10 (qR_mk _ _)) ?_
  refine r_throwW (pc := 18) "java/lang/IllegalArgumentException" 12 dX9_failText_18 dX9_failText_21 dX9_failText_22 dX9_failText_25 dX9_failText_28 xX9_114_118 rfl ⟨by decide, Nat.le_of_ble_eq_true rfl⟩ (by decide) (by decide) ?_
  cases hf
  exact hk
def F_X9_takeName_38 (S : pS) (l0 : Nat) (l1 : Int32) : Option ((Int32 × pS) ⊕ (String × pS)) := (oGA S l0 9 10).bind fun x13 => (F_X7_forget S x13).bind fun q15 => some (.inl (l1, q15))
set_option maxRecDepth 100000 in
set_option maxHeartbeats 4000000 in
theorem W_X9_takeName_38 {X : pX} {Q : pO → Nat → pF → Prop} (S : pS) (l0 : Nat) (l1 : Int32) (r : (Int32 × pS) ⊕ (String × pS)) (hf : F_X9_takeName_38 S l0 l1 = some r) (hk : Sum.elim (fun q => Q (.inl (some (.int q.1))) q.2.1 q.2.2) (fun q => ∀ n', q.2.1 ≤ n' → Q (.inr q.1) n' (gjunk q.2.2 q.2.1)) r) : gW X mX9_takeName 38 [some (.ref l0), some (.int l1)] [] S.1 S.2 Q 0 0 := by
  unfold F_X9_takeName_38 at hf
  refine r_aload_n (pc := 38) dX9_takeName_38 rfl ?_
  replace hf := obind hf
  obtain ⟨x13, e14, hf⟩ := hf
  refine q_getA (pc := 39) dX9_takeName_39 gX9_66 e14 ?_
  replace hf := obind hf
  obtain ⟨q15, e16, hf⟩ := hf
  refine q_callV (pc := 42) (v := none) (S' := q15) mX7_forget 7 [] dX9_takeName_42 kX9_354 fX7_forget iX7_forget ⟨by decide, by decide⟩ rfl rfl rfl (Nat.le_of_ble_eq_true rfl) (og e16) (mc1 := 0) (ms1 := 0) (mc2 := 0) (ms2 := 0) (by decide) (by decide) (C_X7_forget S x13 q15 e16 (qR_mk _ _)) ?_
  refine r_iload_n (pc := 45) dX9_takeName_45 rfl ?_
  refine r_ireturn (pc := 46) .int dX9_takeName_46 rfl rfl ?_
  cases hf
  exact hk
def F_X9_takeName_34 (S : pS) (l0 : Nat) (l1 : Int32) : Option ((Int32 × pS) ⊕ (String × pS)) := (F_X9_failText S l0).bind fun q11 => Sum.elim (fun q11 => F_X9_takeName_38 q11 l0 l1) (fun q11 => some (.inr q11)) q11
set_option maxRecDepth 100000 in
set_option maxHeartbeats 4000000 in
theorem W_X9_takeName_34 {X : pX} {Q : pO → Nat → pF → Prop} (S : pS) (l0 : Nat) (l1 : Int32) (r : (Int32 × pS) ⊕ (String × pS)) (hf : F_X9_takeName_34 S l0 l1 = some r) (hk : Sum.elim (fun q => Q (.inl (some (.int q.1))) q.2.1 q.2.2) (fun q => ∀ n', q.2.1 ≤ n' → Q (.inr q.1) n' (gjunk q.2.2 q.2.1)) r) : gW X mX9_takeName 34 [some (.ref l0), some (.int l1)] [] S.1 S.2 Q 1 6 := by
  unfold F_X9_takeName_34 at hf
  refine r_aload_n (pc := 34) dX9_takeName_34 rfl ?_
  replace hf := obind hf
  obtain ⟨q11, e12, hf⟩ := hf
  rcases q11 with q11 | q11
  · simp only [Sum.elim_inl, Sum.elim_inr] at hf
    refine q_callV (pc := 35) (v := none) (S' := q11) mX9_failText 9 [] dX9_takeName_35 kX9_351 fX9_failText iX9_failText ⟨by decide, by decide⟩ rfl rfl rfl (Nat.le_of_ble_eq_true rfl) (og e12) (mc1 := 1) (ms1 := 6) (mc2 := 0) (ms2 := 0) (by decide) (by decide) (C_X9_failText S l0 (.inl q11) e12 (qR_mk _ _)) ?_
    refine gW.mono (mc := 0) (ms := 0) ?_ (fun _ _ _ q => q) (by decide) (by decide)
    exact gW.weak (by simp [gle]) (W_X9_takeName_38 q11 l0 l1 r hf hk)
  · simp only [Sum.elim_inl, Sum.elim_inr] at hf
    refine q_callVt (pc := 35) (E := q11.1) (S' := q11.2) mX9_failText 9 [] dX9_takeName_35 kX9_351 fX9_failText iX9_failText ⟨by decide, by decide⟩ rfl rfl rfl (Nat.le_of_ble_eq_true rfl) (og e12) (mc1 := 1) (ms1 := 6) (by decide) (by decide) (C_X9_failText S l0 (.inr q11) e12 (qX_mk _ _)) ?_
    cases hf
    exact hk
def F_X9_takeName (S : pS) (a0 : Nat) : Option ((Int32 × pS) ⊕ (String × pS)) := (oF S a0 9).bind fun _ => (oGA S a0 9 10).bind fun x1 => (F_X7_start S x1).bind fun q3 => (oGA q3 a0 9 10).bind fun x5 => (oGA q3 a0 9 13).bind fun x7 => (F_X7_takeLetters q3 x5 x7 (0 : Int32)).bind fun q9 => if q9.1 = 0 then (F_X9_takeName_34 q9.2 a0 q9.1) else ((oGA q9.2 a0 9 10).bind fun x17 => (F_X7_isAtEnd q9.2 x17).bind fun q19 => if ¬ q19 = 0 then (F_X9_takeName_38 q9.2 a0 q9.1) else (F_X9_takeName_34 q9.2 a0 q9.1))
set_option maxRecDepth 100000 in
set_option maxHeartbeats 4000000 in
theorem C_X9_takeName {X : pX} {Q : pO → Nat → pF → Prop} (S : pS) (a0 : Nat) (r : (Int32 × pS) ⊕ (String × pS)) (hf : F_X9_takeName S a0 = some r) (hk : Sum.elim (fun q => Q (.inl (some (.int q.1))) q.2.1 q.2.2) (fun q => ∀ n', q.2.1 ≤ n' → Q (.inr q.1) n' (gjunk q.2.2 q.2.1)) r) : gC X mX9_takeName [.ref a0] S.1 S.2 Q 1 6 := by
  refine gC_of (by decide) (Nat.le_of_ble_eq_true rfl) rfl ?_
  change gW _ _ _ [some (.ref a0), none] _ _ _ _ _ _
  unfold F_X9_takeName at hf
  obtain ⟨_, _, hf⟩ := obind hf
  refine r_aload_n (pc := 0) dX9_takeName_0 rfl ?_
  replace hf := obind hf
  obtain ⟨x1, e2, hf⟩ := hf
  refine q_getA (pc := 1) dX9_takeName_1 gX9_66 e2 ?_
  replace hf := obind hf
  obtain ⟨q3, e4, hf⟩ := hf
  refine q_callV (pc := 4) (v := none) (S' := q3) mX7_start 7 [] dX9_takeName_4 kX9_428 fX7_start iX7_start ⟨by decide, by decide⟩ rfl rfl rfl (Nat.le_of_ble_eq_true rfl) (og e4) (mc1 := 0) (ms1 := 0) (mc2 := 1) (ms2 := 6) (by decide) (by decide) (C_X7_start S x1 q3 e4 (qR_mk _ _)) ?_
  refine r_aload_n (pc := 7) dX9_takeName_7 rfl ?_
  replace hf := obind hf
  obtain ⟨x5, e6, hf⟩ := hf
  refine q_getA (pc := 8) dX9_takeName_8 gX9_66 e6 ?_
  refine r_aload_n (pc := 11) dX9_takeName_11 rfl ?_
  replace hf := obind hf
  obtain ⟨x7, e8, hf⟩ := hf
  refine q_getA (pc := 12) dX9_takeName_12 gX9_84 e8 ?_
  refine r_iconst (pc := 15) (0 : Int32) dX9_takeName_15 (by decide) ?_
  replace hf := obind hf
  obtain ⟨q9, e10, hf⟩ := hf
  refine q_callV (pc := 16) (v := some (.int q9.1)) (S' := q9.2) mX7_takeLetters 7 [.ref x7, .int (0 : Int32)] dX9_takeName_16 kX9_431 fX7_takeLetters iX7_takeLetters ⟨by decide, by decide⟩ rfl rfl rfl (Nat.le_of_ble_eq_true rfl) (og e10) (mc1 := 0) (ms1 := 0) (mc2 := 1) (ms2 := 6) (by decide) (by decide) (C_X7_takeLetters q3 x5 x7 (0 : Int32) q9 e10 (qR_mk _ _)) ?_
  change gW _ _ _ _ (.int q9.1 :: _) _ _ _ _ _
  refine r_istore_n (pc := 19) dX9_takeName_19 (by decide) ?_
  change gW _ _ _ [some (.ref a0), some (.int q9.1)] _ _ _ _ _ _
  refine r_iload_n (pc := 20) dX9_takeName_20 rfl ?_
  refine r_if_eq (pc := 21) 34 dX9_takeName_21 (by decide) (fun hc => ?_) (fun hc => ?_)
  · rw [if_pos hc] at hf
    refine gW.mono (mc := 1) (ms := 6) ?_ (fun _ _ _ q => q) (by decide) (by decide)
    exact gW.weak (by simp [gle]) (W_X9_takeName_34 q9.2 a0 q9.1 r hf hk)
  · rw [if_neg hc] at hf
    refine r_aload_n (pc := 24) dX9_takeName_24 rfl ?_
    replace hf := obind hf
    obtain ⟨x17, e18, hf⟩ := hf
    refine q_getA (pc := 25) dX9_takeName_25 gX9_66 e18 ?_
    replace hf := obind hf
    obtain ⟨q19, e20, hf⟩ := hf
    refine q_callV (pc := 28) (v := some (.int q19)) (S' := q9.2) mX7_isAtEnd 7 [] dX9_takeName_28 kX9_435 fX7_isAtEnd iX7_isAtEnd ⟨by decide, by decide⟩ rfl rfl rfl (Nat.le_of_ble_eq_true rfl) (og e20) (mc1 := 0) (ms1 := 0) (mc2 := 1) (ms2 := 6) (by decide) (by decide) (C_X7_isAtEnd q9.2 x17 q19 e20 (qR_mk _ _)) ?_
    change gW _ _ _ _ (.int q19 :: _) _ _ _ _ _
    refine r_if_ne (pc := 31) 38 dX9_takeName_31 (by decide) (fun hc => ?_) (fun hc => ?_)
    · rw [if_pos hc] at hf
      refine gW.mono (mc := 0) (ms := 0) ?_ (fun _ _ _ q => q) (by decide) (by decide)
      exact gW.weak (by simp [gle]) (W_X9_takeName_38 q9.2 a0 q9.1 r hf hk)
    · rw [if_neg hc] at hf
      refine gW.mono (mc := 1) (ms := 6) ?_ (fun _ _ _ q => q) (by decide) (by decide)
      exact gW.weak (by simp [gle]) (W_X9_takeName_34 q9.2 a0 q9.1 r hf hk)
def F_X9_adoptDraft (S : pS) (a0 : Nat) : Option (pS) := (oF S a0 9).bind fun _ => (oGA S a0 9 5).bind fun x1 => (oGA S a0 9 0).bind fun x3 => (F_X3_push S x1 x3).bind fun q5 => (oGA q5.2 a0 9 1).bind fun x7 => (oPA q5.2 a0 9 0 x7).bind fun S9 => (oPA S9 a0 9 1 q5.1).bind fun S11 => (F_X9_settle S11 a0).bind fun q13 => some q13
set_option maxRecDepth 100000 in
set_option maxHeartbeats 4000000 in
theorem C_X9_adoptDraft {X : pX} {Q : pO → Nat → pF → Prop} (S : pS) (a0 : Nat) (r : pS) (hf : F_X9_adoptDraft S a0 = some r) (hk : Q (.inl none) r.1 r.2) : gC X mX9_adoptDraft [.ref a0] S.1 S.2 Q 7 1596 := by
  refine gC_of (by decide) (Nat.le_of_ble_eq_true rfl) rfl ?_
  change gW _ _ _ [some (.ref a0), none] _ _ _ _ _ _
  unfold F_X9_adoptDraft at hf
  obtain ⟨_, _, hf⟩ := obind hf
  refine r_aload_n (pc := 0) dX9_adoptDraft_0 rfl ?_
  replace hf := obind hf
  obtain ⟨x1, e2, hf⟩ := hf
  refine q_getA (pc := 1) dX9_adoptDraft_1 gX9_35 e2 ?_
  refine r_aload_n (pc := 4) dX9_adoptDraft_4 rfl ?_
  replace hf := obind hf
  obtain ⟨x3, e4, hf⟩ := hf
  refine q_getA (pc := 5) dX9_adoptDraft_5 gX9_12 e4 ?_
  replace hf := obind hf
  obtain ⟨q5, e6, hf⟩ := hf
  refine q_callV (pc := 8) (v := some (.ref q5.1)) (S' := q5.2) mX3_push 3 [.ref x3] dX9_adoptDraft_8 kX9_422 fX3_push iX3_push ⟨by decide, by decide⟩ rfl rfl rfl (Nat.le_of_ble_eq_true rfl) (og e6) (mc1 := 7) (ms1 := 1596) (mc2 := 0) (ms2 := 0) (by decide) (by decide) (C_X3_push S x1 x3 q5 e6 (qR_mk _ _)) ?_
  change gW _ _ _ _ (.ref q5.1 :: _) _ _ _ _ _
  refine r_astore_n (pc := 11) dX9_adoptDraft_11 (by decide) ?_
  change gW _ _ _ [some (.ref a0), some (.ref q5.1)] _ _ _ _ _ _
  refine r_aload_n (pc := 12) dX9_adoptDraft_12 rfl ?_
  refine r_aload_n (pc := 13) dX9_adoptDraft_13 rfl ?_
  replace hf := obind hf
  obtain ⟨x7, e8, hf⟩ := hf
  refine q_getA (pc := 14) dX9_adoptDraft_14 gX9_16 e8 ?_
  replace hf := obind hf
  obtain ⟨S9, e10, hf⟩ := hf
  refine q_putA (pc := 17) dX9_adoptDraft_17 pX9_12 (Or.inl ⟨_, rfl⟩) e10 ?_
  refine r_aload_n (pc := 20) dX9_adoptDraft_20 rfl ?_
  refine r_aload_n (pc := 21) dX9_adoptDraft_21 rfl ?_
  replace hf := obind hf
  obtain ⟨S11, e12, hf⟩ := hf
  refine q_putA (pc := 22) dX9_adoptDraft_22 pX9_16 (Or.inl ⟨_, rfl⟩) e12 ?_
  refine r_aload_n (pc := 25) dX9_adoptDraft_25 rfl ?_
  replace hf := obind hf
  obtain ⟨q13, e14, hf⟩ := hf
  refine q_callV (pc := 26) (v := none) (S' := q13) mX9_settle 9 [] dX9_adoptDraft_26 kX9_111 fX9_settle iX9_settle ⟨by decide, by decide⟩ rfl rfl rfl (Nat.le_of_ble_eq_true rfl) (og e14) (mc1 := 0) (ms1 := 0) (mc2 := 0) (ms2 := 0) (by decide) (by decide) (C_X9_settle S11 a0 q13 e14 (qR_mk _ _)) ?_
  refine r_return (pc := 29) dX9_adoptDraft_29 rfl ?_
  cases hf
  exact hk
def F_X9_add (S : pS) (a0 : Nat) (a1 : Int32) (a2 : Int32) : Option ((Int32 × pS) ⊕ (String × pS)) := (oF S a0 9).bind fun _ => (F_X9_needItem S a0 a1).bind fun q1 => Sum.elim (fun q1 => (oGA q1 a0 9 0).bind fun x3 => (F_X8_childCount q1 x3 a1).bind fun q5 => (F_X9_needGap q1 a0 a2 q5).bind fun q7 => Sum.elim (fun q7 => (F_X9_takeName q7 a0).bind fun q9 => Sum.elim (fun q9 => (oGA q9.2 a0 9 3).bind fun x11 => (oGA q9.2 a0 9 0).bind fun x13 => (F_X6_reasonAgainstNew q9.2 x11 x13 a1).bind fun q15 => if q15 = 0 then ((oGA q9.2 a0 9 1).bind fun x17 => (oGA q9.2 a0 9 0).bind fun x19 => (F_X8_copyFrom q9.2 x17 x19).bind fun q21 => (oGA q21 a0 9 1).bind fun x23 => (oGA q21 a0 9 13).bind fun x25 => (F_X8_makeItem q21 x23 x25 (0 : Int32) q9.1).bind fun q27 => (oGA q27.2 a0 9 1).bind fun x29 => (F_X8_insertChild q27.2 x29 a1 a2 q27.1).bind fun q31 => (F_X9_adoptDraft q31 a0).bind fun q33 => some (.inl (q27.1, q33))) else ((oGA q9.2 a0 9 12).bind fun x35 => (F_X0_keep q9.2 x35 (10 : Int32) (0 : Int32) q15).bind fun q37 => some (.inr ("java/lang/UnsupportedOperationException", q37)))) (fun q9 => some (.inr q9)) q9) (fun q7 => some (.inr q7)) q7) (fun q1 => some (.inr q1)) q1
set_option maxRecDepth 100000 in
set_option maxHeartbeats 4000000 in
theorem C_X9_add {X : pX} {Q : pO → Nat → pF → Prop} (S : pS) (a0 : Nat) (a1 : Int32) (a2 : Int32) (r : (Int32 × pS) ⊕ (String × pS)) (hf : F_X9_add S a0 a1 a2 = some r) (hk : Sum.elim (fun q => Q (.inl (some (.int q.1))) q.2.1 q.2.2) (fun q => ∀ n', q.2.1 ≤ n' → Q (.inr q.1) n' (gjunk q.2.2 q.2.1)) r) : gC X mX9_add [.ref a0, .int a1, .int a2] S.1 S.2 Q 10 1614 := by
  refine gC_of (by decide) (Nat.le_of_ble_eq_true rfl) rfl ?_
  change gW _ _ _ [some (.ref a0), some (.int a1), some (.int a2), none, none, none] _ _ _ _ _ _
  unfold F_X9_add at hf
  obtain ⟨_, _, hf⟩ := obind hf
  refine r_aload_n (pc := 0) dX9_add_0 rfl ?_
  refine r_iload_n (pc := 1) dX9_add_1 rfl ?_
  replace hf := obind hf
  obtain ⟨q1, e2, hf⟩ := hf
  rcases q1 with q1 | q1
  · simp only [Sum.elim_inl, Sum.elim_inr] at hf
    refine q_callV (pc := 2) (v := none) (S' := q1) mX9_needItem 9 [.int a1] dX9_add_2 kX9_137 fX9_needItem iX9_needItem ⟨by decide, by decide⟩ rfl rfl rfl (Nat.le_of_ble_eq_true rfl) (og e2) (mc1 := 1) (ms1 := 6) (mc2 := 9) (ms2 := 1608) (by decide) (by decide) (C_X9_needItem S a0 a1 (.inl q1) e2 (qR_mk _ _)) ?_
    refine r_aload_n (pc := 5) dX9_add_5 rfl ?_
    refine r_iload_n (pc := 6) dX9_add_6 rfl ?_
    refine r_aload_n (pc := 7) dX9_add_7 rfl ?_
    replace hf := obind hf
    obtain ⟨x3, e4, hf⟩ := hf
    refine q_getA (pc := 8) dX9_add_8 gX9_12 e4 ?_
    refine r_iload_n (pc := 11) dX9_add_11 rfl ?_
    replace hf := obind hf
    obtain ⟨q5, e6, hf⟩ := hf
    refine q_callV (pc := 12) (v := some (.int q5)) (S' := q1) mX8_childCount 8 [.int a1] dX9_add_12 kX9_141 fX8_childCount iX8_childCount ⟨by decide, by decide⟩ rfl rfl rfl (Nat.le_of_ble_eq_true rfl) (og e6) (mc1 := 0) (ms1 := 0) (mc2 := 9) (ms2 := 1608) (by decide) (by decide) (C_X8_childCount q1 x3 a1 q5 e6 (qR_mk _ _)) ?_
    change gW _ _ _ _ (.int q5 :: _) _ _ _ _ _
    replace hf := obind hf
    obtain ⟨q7, e8, hf⟩ := hf
    rcases q7 with q7 | q7
    · simp only [Sum.elim_inl, Sum.elim_inr] at hf
      refine q_callV (pc := 15) (v := none) (S' := q7) mX9_needGap 9 [.int a2, .int q5] dX9_add_15 kX9_145 fX9_needGap iX9_needGap ⟨by decide, by decide⟩ rfl rfl rfl (Nat.le_of_ble_eq_true rfl) (og e8) (mc1 := 1) (ms1 := 6) (mc2 := 8) (ms2 := 1602) (by decide) (by decide) (C_X9_needGap q1 a0 a2 q5 (.inl q7) e8 (qR_mk _ _)) ?_
      refine r_aload_n (pc := 18) dX9_add_18 rfl ?_
      replace hf := obind hf
      obtain ⟨q9, e10, hf⟩ := hf
      rcases q9 with q9 | q9
      · simp only [Sum.elim_inl, Sum.elim_inr] at hf
        refine q_callV (pc := 19) (v := some (.int q9.1)) (S' := q9.2) mX9_takeName 9 [] dX9_add_19 kX9_149 fX9_takeName iX9_takeName ⟨by decide, by decide⟩ rfl rfl rfl (Nat.le_of_ble_eq_true rfl) (og e10) (mc1 := 1) (ms1 := 6) (mc2 := 7) (ms2 := 1596) (by decide) (by decide) (C_X9_takeName q7 a0 (.inl q9) e10 (qR_mk _ _)) ?_
        change gW _ _ _ _ (.int q9.1 :: _) _ _ _ _ _
        refine r_istore_n (pc := 22) dX9_add_22 (by decide) ?_
        change gW _ _ _ [some (.ref a0), some (.int a1), some (.int a2), some (.int q9.1), none, none] _ _ _ _ _ _
        refine r_aload_n (pc := 23) dX9_add_23 rfl ?_
        replace hf := obind hf
        obtain ⟨x11, e12, hf⟩ := hf
        refine q_getA (pc := 24) dX9_add_24 gX9_25 e12 ?_
        refine r_aload_n (pc := 27) dX9_add_27 rfl ?_
        replace hf := obind hf
        obtain ⟨x13, e14, hf⟩ := hf
        refine q_getA (pc := 28) dX9_add_28 gX9_12 e14 ?_
        refine r_iload_n (pc := 31) dX9_add_31 rfl ?_
        replace hf := obind hf
        obtain ⟨q15, e16, hf⟩ := hf
        refine q_callV (pc := 32) (v := some (.int q15)) (S' := q9.2) mX6_reasonAgainstNew 6 [.ref x13, .int a1] dX9_add_32 kX9_152 fX6_reasonAgainstNew iX6_reasonAgainstNew ⟨by decide, by decide⟩ rfl rfl rfl (Nat.le_of_ble_eq_true rfl) (og e16) (mc1 := 0) (ms1 := 0) (mc2 := 7) (ms2 := 1596) (by decide) (by decide) (C_X6_reasonAgainstNew q9.2 x11 x13 a1 q15 e16 (qR_mk _ _)) ?_
        change gW _ _ _ _ (.int q15 :: _) _ _ _ _ _
        refine r_istore (pc := 35) dX9_add_35 (by decide) ?_
        change gW _ _ _ [some (.ref a0), some (.int a1), some (.int a2), some (.int q9.1), some (.int q15), none] _ _ _ _ _ _
        refine r_iload (pc := 37) dX9_add_37 rfl ?_
        refine r_if_eq (pc := 39) 64 dX9_add_39 (by decide) (fun hc => ?_) (fun hc => ?_)
        · rw [if_pos hc] at hf
          refine r_aload_n (pc := 64) dX9_add_64 rfl ?_
          replace hf := obind hf
          obtain ⟨x17, e18, hf⟩ := hf
          refine q_getA (pc := 65) dX9_add_65 gX9_16 e18 ?_
          refine r_aload_n (pc := 68) dX9_add_68 rfl ?_
          replace hf := obind hf
          obtain ⟨x19, e20, hf⟩ := hf
          refine q_getA (pc := 69) dX9_add_69 gX9_12 e20 ?_
          replace hf := obind hf
          obtain ⟨q21, e22, hf⟩ := hf
          refine q_callV (pc := 72) (v := none) (S' := q21) mX8_copyFrom 8 [.ref x19] dX9_add_72 kX9_165 fX8_copyFrom iX8_copyFrom ⟨by decide, by decide⟩ rfl rfl rfl (Nat.le_of_ble_eq_true rfl) (og e22) (mc1 := 0) (ms1 := 0) (mc2 := 7) (ms2 := 1596) (by decide) (by decide) (C_X8_copyFrom q9.2 x17 x19 q21 e22 (qR_mk _ _)) ?_
          refine r_aload_n (pc := 75) dX9_add_75 rfl ?_
          replace hf := obind hf
          obtain ⟨x23, e24, hf⟩ := hf
          refine q_getA (pc := 76) dX9_add_76 gX9_16 e24 ?_
          refine r_aload_n (pc := 79) dX9_add_79 rfl ?_
          replace hf := obind hf
          obtain ⟨x25, e26, hf⟩ := hf
          refine q_getA (pc := 80) dX9_add_80 gX9_84 e26 ?_
          refine r_iconst (pc := 83) (0 : Int32) dX9_add_83 (by decide) ?_
          refine r_iload_n (pc := 84) dX9_add_84 rfl ?_
          replace hf := obind hf
          obtain ⟨q27, e28, hf⟩ := hf
          refine q_callV (pc := 85) (v := some (.int q27.1)) (S' := q27.2) mX8_makeItem 8 [.ref x25, .int (0 : Int32), .int q9.1] dX9_add_85 kX9_169 fX8_makeItem iX8_makeItem ⟨by decide, by decide⟩ rfl rfl rfl (Nat.le_of_ble_eq_true rfl) (og e28) (mc1 := 0) (ms1 := 0) (mc2 := 7) (ms2 := 1596) (by decide) (by decide) (C_X8_makeItem q21 x23 x25 (0 : Int32) q9.1 q27 e28 (qR_mk _ _)) ?_
          change gW _ _ _ _ (.int q27.1 :: _) _ _ _ _ _
          refine r_istore (pc := 88) dX9_add_88 (by decide) ?_
          change gW _ _ _ [some (.ref a0), some (.int a1), some (.int a2), some (.int q9.1), some (.int q15), some (.int q27.1)] _ _ _ _ _ _
          refine r_aload_n (pc := 90) dX9_add_90 rfl ?_
          replace hf := obind hf
          obtain ⟨x29, e30, hf⟩ := hf
          refine q_getA (pc := 91) dX9_add_91 gX9_16 e30 ?_
          refine r_iload_n (pc := 94) dX9_add_94 rfl ?_
          refine r_iload_n (pc := 95) dX9_add_95 rfl ?_
          refine r_iload (pc := 96) dX9_add_96 rfl ?_
          replace hf := obind hf
          obtain ⟨q31, e32, hf⟩ := hf
          refine q_callV (pc := 98) (v := none) (S' := q31) mX8_insertChild 8 [.int a1, .int a2, .int q27.1] dX9_add_98 kX9_173 fX8_insertChild iX8_insertChild ⟨by decide, by decide⟩ rfl rfl rfl (Nat.le_of_ble_eq_true rfl) (og e32) (mc1 := 0) (ms1 := 0) (mc2 := 7) (ms2 := 1596) (by decide) (by decide) (C_X8_insertChild q27.2 x29 a1 a2 q27.1 q31 e32 (qR_mk _ _)) ?_
          refine r_aload_n (pc := 101) dX9_add_101 rfl ?_
          replace hf := obind hf
          obtain ⟨q33, e34, hf⟩ := hf
          refine q_callV (pc := 102) (v := none) (S' := q33) mX9_adoptDraft 9 [] dX9_add_102 kX9_176 fX9_adoptDraft iX9_adoptDraft ⟨by decide, by decide⟩ rfl rfl rfl (Nat.le_of_ble_eq_true rfl) (og e34) (mc1 := 7) (ms1 := 1596) (mc2 := 0) (ms2 := 0) (by decide) (by decide) (C_X9_adoptDraft q31 a0 q33 e34 (qR_mk _ _)) ?_
          refine r_iload (pc := 105) dX9_add_105 rfl ?_
          refine r_ireturn (pc := 107) .int dX9_add_107 rfl rfl ?_
          cases hf
          exact hk
        · rw [if_neg hc] at hf
          refine r_aload_n (pc := 42) dX9_add_42 rfl ?_
          replace hf := obind hf
          obtain ⟨x35, e36, hf⟩ := hf
          refine q_getA (pc := 43) dX9_add_43 gX9_80 e36 ?_
          refine r_bipush (pc := 46) (10 : Int32) dX9_add_46 (by decide) ?_
          refine r_iconst (pc := 48) (0 : Int32) dX9_add_48 (by decide) ?_
          refine r_iload (pc := 49) dX9_add_49 rfl ?_
          replace hf := obind hf
          obtain ⟨q37, e38, hf⟩ := hf
          refine q_callV (pc := 51) (v := none) (S' := q37) mX0_keep 0 [.int (10 : Int32), .int (0 : Int32), .int q15] dX9_add_51 kX9_156 fX0_keep iX0_keep ⟨by decide, by decide⟩ rfl rfl rfl (Nat.le_of_ble_eq_true rfl) (og e38) (mc1 := 0) (ms1 := 0) (mc2 := 1) (ms2 := 6) (by decide) (by decide) (C_X0_keep q9.2 x35 (10 : Int32) (0 : Int32) q15 q37 e38 (qR_mk _ _)) ?_
          refine r_throw (pc := 54) "java/lang/UnsupportedOperationException" 13 dX9_add_54 dX9_add_57 dX9_add_58 dX9_add_60 dX9_add_63 xX9_160_164 rfl ⟨by decide, Nat.le_of_ble_eq_true rfl⟩ (by decide) (by decide) ?_
          cases hf
          exact hk
      · simp only [Sum.elim_inl, Sum.elim_inr] at hf
        refine q_callVt (pc := 19) (E := q9.1) (S' := q9.2) mX9_takeName 9 [] dX9_add_19 kX9_149 fX9_takeName iX9_takeName ⟨by decide, by decide⟩ rfl rfl rfl (Nat.le_of_ble_eq_true rfl) (og e10) (mc1 := 1) (ms1 := 6) (by decide) (by decide) (C_X9_takeName q7 a0 (.inr q9) e10 (qX_mk _ _)) ?_
        cases hf
        exact hk
    · simp only [Sum.elim_inl, Sum.elim_inr] at hf
      refine q_callVt (pc := 15) (E := q7.1) (S' := q7.2) mX9_needGap 9 [.int a2, .int q5] dX9_add_15 kX9_145 fX9_needGap iX9_needGap ⟨by decide, by decide⟩ rfl rfl rfl (Nat.le_of_ble_eq_true rfl) (og e8) (mc1 := 1) (ms1 := 6) (by decide) (by decide) (C_X9_needGap q1 a0 a2 q5 (.inr q7) e8 (qX_mk _ _)) ?_
      cases hf
      exact hk
  · simp only [Sum.elim_inl, Sum.elim_inr] at hf
    refine q_callVt (pc := 2) (E := q1.1) (S' := q1.2) mX9_needItem 9 [.int a1] dX9_add_2 kX9_137 fX9_needItem iX9_needItem ⟨by decide, by decide⟩ rfl rfl rfl (Nat.le_of_ble_eq_true rfl) (og e2) (mc1 := 1) (ms1 := 6) (by decide) (by decide) (C_X9_needItem S a0 a1 (.inr q1) e2 (qX_mk _ _)) ?_
    cases hf
    exact hk
def F_X9_needNamedItem_15 (S : pS) : Option ((pS) ⊕ (String × pS)) := some (.inr ("java/util/NoSuchElementException", S))
set_option maxRecDepth 100000 in
set_option maxHeartbeats 4000000 in
theorem W_X9_needNamedItem_15 {X : pX} {Q : pO → Nat → pF → Prop} (S : pS) (r : (pS) ⊕ (String × pS)) (hf : F_X9_needNamedItem_15 S = some r) (hk : Sum.elim (fun q => Q (.inl none) q.1 q.2) (fun q => ∀ n', q.2.1 ≤ n' → Q (.inr q.1) n' (gjunk q.2.2 q.2.1)) r) : gW X mX9_needNamedItem 15 [none, none] [] S.1 S.2 Q 1 6 := by
  unfold F_X9_needNamedItem_15 at hf
  refine r_throwNW (pc := 15) "java/util/NoSuchElementException" 14 dX9_needNamedItem_15 dX9_needNamedItem_18 dX9_needNamedItem_19 dX9_needNamedItem_22 dX9_needNamedItem_25 xX9_404_408 rfl ⟨by decide, Nat.le_of_ble_eq_true rfl⟩ (by decide) (by decide) ?_
  cases hf
  exact hk
def F_X9_needNamedItem (S : pS) (a0 : Nat) (a1 : Int32) : Option ((pS) ⊕ (String × pS)) := (oF S a0 9).bind fun _ => if a1 = 0 then (F_X9_needNamedItem_15 S) else ((oGA S a0 9 0).bind fun x1 => (F_X8_holds S x1 a1).bind fun q3 => if ¬ q3 = 0 then (some (.inl S)) else (F_X9_needNamedItem_15 S))
set_option maxRecDepth 100000 in
set_option maxHeartbeats 4000000 in
theorem C_X9_needNamedItem {X : pX} {Q : pO → Nat → pF → Prop} (S : pS) (a0 : Nat) (a1 : Int32) (r : (pS) ⊕ (String × pS)) (hf : F_X9_needNamedItem S a0 a1 = some r) (hk : Sum.elim (fun q => Q (.inl none) q.1 q.2) (fun q => ∀ n', q.2.1 ≤ n' → Q (.inr q.1) n' (gjunk q.2.2 q.2.1)) r) : gC X mX9_needNamedItem [.ref a0, .int a1] S.1 S.2 Q 1 6 := by
  refine gC_of (by decide) (Nat.le_of_ble_eq_true rfl) rfl ?_
  change gW _ _ _ [some (.ref a0), some (.int a1)] _ _ _ _ _ _
  unfold F_X9_needNamedItem at hf
  obtain ⟨_, _, hf⟩ := obind hf
  refine r_iload_n (pc := 0) dX9_needNamedItem_0 rfl ?_
  refine r_if_eq (pc := 1) 15 dX9_needNamedItem_1 (by decide) (fun hc => ?_) (fun hc => ?_)
  · rw [if_pos hc] at hf
    refine gW.mono (mc := 1) (ms := 6) ?_ (fun _ _ _ q => q) (by decide) (by decide)
    exact gW.weak (by simp [gle]) (W_X9_needNamedItem_15 S r hf hk)
  · rw [if_neg hc] at hf
    refine r_aload_n (pc := 4) dX9_needNamedItem_4 rfl ?_
    replace hf := obind hf
    obtain ⟨x1, e2, hf⟩ := hf
    refine q_getA (pc := 5) dX9_needNamedItem_5 gX9_12 e2 ?_
    refine r_iload_n (pc := 8) dX9_needNamedItem_8 rfl ?_
    replace hf := obind hf
    obtain ⟨q3, e4, hf⟩ := hf
    refine q_callV (pc := 9) (v := some (.int q3)) (S' := S) mX8_holds 8 [.int a1] dX9_needNamedItem_9 kX9_401 fX8_holds iX8_holds ⟨by decide, by decide⟩ rfl rfl rfl (Nat.le_of_ble_eq_true rfl) (og e4) (mc1 := 0) (ms1 := 0) (mc2 := 1) (ms2 := 6) (by decide) (by decide) (C_X8_holds S x1 a1 q3 e4 (qR_mk _ _)) ?_
    change gW _ _ _ _ (.int q3 :: _) _ _ _ _ _
    refine r_if_ne (pc := 12) 26 dX9_needNamedItem_12 (by decide) (fun hc => ?_) (fun hc => ?_)
    · rw [if_pos hc] at hf
      refine r_return (pc := 26) dX9_needNamedItem_26 rfl ?_
      cases hf
      exact hk
    · rw [if_neg hc] at hf
      refine gW.mono (mc := 1) (ms := 6) ?_ (fun _ _ _ q => q) (by decide) (by decide)
      exact gW.weak (by simp [gle]) (W_X9_needNamedItem_15 S r hf hk)
def F_X9_clone (S : pS) (a0 : Nat) (a1 : Int32) (a2 : Int32) (a3 : Int32) : Option ((Int32 × pS) ⊕ (String × pS)) := (oF S a0 9).bind fun _ => (F_X9_needNamedItem S a0 a1).bind fun q1 => Sum.elim (fun q1 => (F_X9_needItem q1 a0 a2).bind fun q3 => Sum.elim (fun q3 => (oGA q3 a0 9 0).bind fun x5 => (F_X8_childCount q3 x5 a2).bind fun q7 => (F_X9_needGap q3 a0 a3 q7).bind fun q9 => Sum.elim (fun q9 => (oGA q9 a0 9 3).bind fun x11 => (oGA q9 a0 9 0).bind fun x13 => (F_X6_reasonAgainst q9 x11 x13 a1 a2).bind fun q15 => if q15 = 0 then ((oGA q9 a0 9 1).bind fun x17 => (oGA q9 a0 9 0).bind fun x19 => (F_X8_copyFrom q9 x17 x19).bind fun q21 => (oGA q21 a0 9 1).bind fun x23 => (F_X8_insertChild q21 x23 a2 a3 a1).bind fun q25 => (F_X9_adoptDraft q25 a0).bind fun q27 => (oGA q27 a0 9 3).bind fun x29 => (F_X6_placesOf q27 x29 a1).bind fun q31 => some (.inl (q31, q27))) else ((oGA q9 a0 9 12).bind fun x33 => (F_X0_keep q9 x33 (20 : Int32) (0 : Int32) q15).bind fun q35 => some (.inr ("java/lang/UnsupportedOperationException", q35)))) (fun q9 => some (.inr q9)) q9) (fun q3 => some (.inr q3)) q3) (fun q1 => some (.inr q1)) q1
set_option maxRecDepth 100000 in
set_option maxHeartbeats 4000000 in
theorem C_X9_clone {X : pX} {Q : pO → Nat → pF → Prop} (S : pS) (a0 : Nat) (a1 : Int32) (a2 : Int32) (a3 : Int32) (r : (Int32 × pS) ⊕ (String × pS)) (hf : F_X9_clone S a0 a1 a2 a3 = some r) (hk : Sum.elim (fun q => Q (.inl (some (.int q.1))) q.2.1 q.2.2) (fun q => ∀ n', q.2.1 ≤ n' → Q (.inr q.1) n' (gjunk q.2.2 q.2.1)) r) : gC X mX9_clone [.ref a0, .int a1, .int a2, .int a3] S.1 S.2 Q 10 1614 := by
  refine gC_of (by decide) (Nat.le_of_ble_eq_true rfl) rfl ?_
  change gW _ _ _ [some (.ref a0), some (.int a1), some (.int a2), some (.int a3), none] _ _ _ _ _ _
  unfold F_X9_clone at hf
  obtain ⟨_, _, hf⟩ := obind hf
  refine r_aload_n (pc := 0) dX9_clone_0 rfl ?_
  refine r_iload_n (pc := 1) dX9_clone_1 rfl ?_
  replace hf := obind hf
  obtain ⟨q1, e2, hf⟩ := hf
  rcases q1 with q1 | q1
  · simp only [Sum.elim_inl, Sum.elim_inr] at hf
    refine q_callV (pc := 2) (v := none) (S' := q1) mX9_needNamedItem 9 [.int a1] dX9_clone_2 kX9_179 fX9_needNamedItem iX9_needNamedItem ⟨by decide, by decide⟩ rfl rfl rfl (Nat.le_of_ble_eq_true rfl) (og e2) (mc1 := 1) (ms1 := 6) (mc2 := 9) (ms2 := 1608) (by decide) (by decide) (C_X9_needNamedItem S a0 a1 (.inl q1) e2 (qR_mk _ _)) ?_
    refine r_aload_n (pc := 5) dX9_clone_5 rfl ?_
    refine r_iload_n (pc := 6) dX9_clone_6 rfl ?_
    replace hf := obind hf
    obtain ⟨q3, e4, hf⟩ := hf
    rcases q3 with q3 | q3
    · simp only [Sum.elim_inl, Sum.elim_inr] at hf
      refine q_callV (pc := 7) (v := none) (S' := q3) mX9_needItem 9 [.int a2] dX9_clone_7 kX9_137 fX9_needItem iX9_needItem ⟨by decide, by decide⟩ rfl rfl rfl (Nat.le_of_ble_eq_true rfl) (og e4) (mc1 := 1) (ms1 := 6) (mc2 := 8) (ms2 := 1602) (by decide) (by decide) (C_X9_needItem q1 a0 a2 (.inl q3) e4 (qR_mk _ _)) ?_
      refine r_aload_n (pc := 10) dX9_clone_10 rfl ?_
      refine r_iload_n (pc := 11) dX9_clone_11 rfl ?_
      refine r_aload_n (pc := 12) dX9_clone_12 rfl ?_
      replace hf := obind hf
      obtain ⟨x5, e6, hf⟩ := hf
      refine q_getA (pc := 13) dX9_clone_13 gX9_12 e6 ?_
      refine r_iload_n (pc := 16) dX9_clone_16 rfl ?_
      replace hf := obind hf
      obtain ⟨q7, e8, hf⟩ := hf
      refine q_callV (pc := 17) (v := some (.int q7)) (S' := q3) mX8_childCount 8 [.int a2] dX9_clone_17 kX9_141 fX8_childCount iX8_childCount ⟨by decide, by decide⟩ rfl rfl rfl (Nat.le_of_ble_eq_true rfl) (og e8) (mc1 := 0) (ms1 := 0) (mc2 := 8) (ms2 := 1602) (by decide) (by decide) (C_X8_childCount q3 x5 a2 q7 e8 (qR_mk _ _)) ?_
      change gW _ _ _ _ (.int q7 :: _) _ _ _ _ _
      replace hf := obind hf
      obtain ⟨q9, e10, hf⟩ := hf
      rcases q9 with q9 | q9
      · simp only [Sum.elim_inl, Sum.elim_inr] at hf
        refine q_callV (pc := 20) (v := none) (S' := q9) mX9_needGap 9 [.int a3, .int q7] dX9_clone_20 kX9_145 fX9_needGap iX9_needGap ⟨by decide, by decide⟩ rfl rfl rfl (Nat.le_of_ble_eq_true rfl) (og e10) (mc1 := 1) (ms1 := 6) (mc2 := 7) (ms2 := 1596) (by decide) (by decide) (C_X9_needGap q3 a0 a3 q7 (.inl q9) e10 (qR_mk _ _)) ?_
        refine r_aload_n (pc := 23) dX9_clone_23 rfl ?_
        replace hf := obind hf
        obtain ⟨x11, e12, hf⟩ := hf
        refine q_getA (pc := 24) dX9_clone_24 gX9_25 e12 ?_
        refine r_aload_n (pc := 27) dX9_clone_27 rfl ?_
        replace hf := obind hf
        obtain ⟨x13, e14, hf⟩ := hf
        refine q_getA (pc := 28) dX9_clone_28 gX9_12 e14 ?_
        refine r_iload_n (pc := 31) dX9_clone_31 rfl ?_
        refine r_iload_n (pc := 32) dX9_clone_32 rfl ?_
        replace hf := obind hf
        obtain ⟨q15, e16, hf⟩ := hf
        refine q_callV (pc := 33) (v := some (.int q15)) (S' := q9) mX6_reasonAgainst 6 [.ref x13, .int a1, .int a2] dX9_clone_33 kX9_182 fX6_reasonAgainst iX6_reasonAgainst ⟨by decide, by decide⟩ rfl rfl rfl (Nat.le_of_ble_eq_true rfl) (og e16) (mc1 := 0) (ms1 := 0) (mc2 := 7) (ms2 := 1596) (by decide) (by decide) (C_X6_reasonAgainst q9 x11 x13 a1 a2 q15 e16 (qR_mk _ _)) ?_
        change gW _ _ _ _ (.int q15 :: _) _ _ _ _ _
        refine r_istore (pc := 36) dX9_clone_36 (by decide) ?_
        change gW _ _ _ [some (.ref a0), some (.int a1), some (.int a2), some (.int a3), some (.int q15)] _ _ _ _ _ _
        refine r_iload (pc := 38) dX9_clone_38 rfl ?_
        refine r_if_eq (pc := 40) 65 dX9_clone_40 (by decide) (fun hc => ?_) (fun hc => ?_)
        · rw [if_pos hc] at hf
          refine r_aload_n (pc := 65) dX9_clone_65 rfl ?_
          replace hf := obind hf
          obtain ⟨x17, e18, hf⟩ := hf
          refine q_getA (pc := 66) dX9_clone_66 gX9_16 e18 ?_
          refine r_aload_n (pc := 69) dX9_clone_69 rfl ?_
          replace hf := obind hf
          obtain ⟨x19, e20, hf⟩ := hf
          refine q_getA (pc := 70) dX9_clone_70 gX9_12 e20 ?_
          replace hf := obind hf
          obtain ⟨q21, e22, hf⟩ := hf
          refine q_callV (pc := 73) (v := none) (S' := q21) mX8_copyFrom 8 [.ref x19] dX9_clone_73 kX9_165 fX8_copyFrom iX8_copyFrom ⟨by decide, by decide⟩ rfl rfl rfl (Nat.le_of_ble_eq_true rfl) (og e22) (mc1 := 0) (ms1 := 0) (mc2 := 7) (ms2 := 1596) (by decide) (by decide) (C_X8_copyFrom q9 x17 x19 q21 e22 (qR_mk _ _)) ?_
          refine r_aload_n (pc := 76) dX9_clone_76 rfl ?_
          replace hf := obind hf
          obtain ⟨x23, e24, hf⟩ := hf
          refine q_getA (pc := 77) dX9_clone_77 gX9_16 e24 ?_
          refine r_iload_n (pc := 80) dX9_clone_80 rfl ?_
          refine r_iload_n (pc := 81) dX9_clone_81 rfl ?_
          refine r_iload_n (pc := 82) dX9_clone_82 rfl ?_
          replace hf := obind hf
          obtain ⟨q25, e26, hf⟩ := hf
          refine q_callV (pc := 83) (v := none) (S' := q25) mX8_insertChild 8 [.int a2, .int a3, .int a1] dX9_clone_83 kX9_173 fX8_insertChild iX8_insertChild ⟨by decide, by decide⟩ rfl rfl rfl (Nat.le_of_ble_eq_true rfl) (og e26) (mc1 := 0) (ms1 := 0) (mc2 := 7) (ms2 := 1596) (by decide) (by decide) (C_X8_insertChild q21 x23 a2 a3 a1 q25 e26 (qR_mk _ _)) ?_
          refine r_aload_n (pc := 86) dX9_clone_86 rfl ?_
          replace hf := obind hf
          obtain ⟨q27, e28, hf⟩ := hf
          refine q_callV (pc := 87) (v := none) (S' := q27) mX9_adoptDraft 9 [] dX9_clone_87 kX9_176 fX9_adoptDraft iX9_adoptDraft ⟨by decide, by decide⟩ rfl rfl rfl (Nat.le_of_ble_eq_true rfl) (og e28) (mc1 := 7) (ms1 := 1596) (mc2 := 0) (ms2 := 0) (by decide) (by decide) (C_X9_adoptDraft q25 a0 q27 e28 (qR_mk _ _)) ?_
          refine r_aload_n (pc := 90) dX9_clone_90 rfl ?_
          replace hf := obind hf
          obtain ⟨x29, e30, hf⟩ := hf
          refine q_getA (pc := 91) dX9_clone_91 gX9_25 e30 ?_
          refine r_iload_n (pc := 94) dX9_clone_94 rfl ?_
          replace hf := obind hf
          obtain ⟨q31, e32, hf⟩ := hf
          refine q_callV (pc := 95) (v := some (.int q31)) (S' := q27) mX6_placesOf 6 [.int a1] dX9_clone_95 kX9_186 fX6_placesOf iX6_placesOf ⟨by decide, by decide⟩ rfl rfl rfl (Nat.le_of_ble_eq_true rfl) (og e32) (mc1 := 0) (ms1 := 0) (mc2 := 0) (ms2 := 0) (by decide) (by decide) (C_X6_placesOf q27 x29 a1 q31 e32 (qR_mk _ _)) ?_
          change gW _ _ _ _ (.int q31 :: _) _ _ _ _ _
          refine r_ireturn (pc := 98) .int dX9_clone_98 rfl rfl ?_
          cases hf
          exact hk
        · rw [if_neg hc] at hf
          refine r_aload_n (pc := 43) dX9_clone_43 rfl ?_
          replace hf := obind hf
          obtain ⟨x33, e34, hf⟩ := hf
          refine q_getA (pc := 44) dX9_clone_44 gX9_80 e34 ?_
          refine r_bipush (pc := 47) (20 : Int32) dX9_clone_47 (by decide) ?_
          refine r_iconst (pc := 49) (0 : Int32) dX9_clone_49 (by decide) ?_
          refine r_iload (pc := 50) dX9_clone_50 rfl ?_
          replace hf := obind hf
          obtain ⟨q35, e36, hf⟩ := hf
          refine q_callV (pc := 52) (v := none) (S' := q35) mX0_keep 0 [.int (20 : Int32), .int (0 : Int32), .int q15] dX9_clone_52 kX9_156 fX0_keep iX0_keep ⟨by decide, by decide⟩ rfl rfl rfl (Nat.le_of_ble_eq_true rfl) (og e36) (mc1 := 0) (ms1 := 0) (mc2 := 1) (ms2 := 6) (by decide) (by decide) (C_X0_keep q9 x33 (20 : Int32) (0 : Int32) q15 q35 e36 (qR_mk _ _)) ?_
          refine r_throw (pc := 55) "java/lang/UnsupportedOperationException" 13 dX9_clone_55 dX9_clone_58 dX9_clone_59 dX9_clone_61 dX9_clone_64 xX9_160_164 rfl ⟨by decide, Nat.le_of_ble_eq_true rfl⟩ (by decide) (by decide) ?_
          cases hf
          exact hk
      · simp only [Sum.elim_inl, Sum.elim_inr] at hf
        refine q_callVt (pc := 20) (E := q9.1) (S' := q9.2) mX9_needGap 9 [.int a3, .int q7] dX9_clone_20 kX9_145 fX9_needGap iX9_needGap ⟨by decide, by decide⟩ rfl rfl rfl (Nat.le_of_ble_eq_true rfl) (og e10) (mc1 := 1) (ms1 := 6) (by decide) (by decide) (C_X9_needGap q3 a0 a3 q7 (.inr q9) e10 (qX_mk _ _)) ?_
        cases hf
        exact hk
    · simp only [Sum.elim_inl, Sum.elim_inr] at hf
      refine q_callVt (pc := 7) (E := q3.1) (S' := q3.2) mX9_needItem 9 [.int a2] dX9_clone_7 kX9_137 fX9_needItem iX9_needItem ⟨by decide, by decide⟩ rfl rfl rfl (Nat.le_of_ble_eq_true rfl) (og e4) (mc1 := 1) (ms1 := 6) (by decide) (by decide) (C_X9_needItem q1 a0 a2 (.inr q3) e4 (qX_mk _ _)) ?_
      cases hf
      exact hk
  · simp only [Sum.elim_inl, Sum.elim_inr] at hf
    refine q_callVt (pc := 2) (E := q1.1) (S' := q1.2) mX9_needNamedItem 9 [.int a1] dX9_clone_2 kX9_179 fX9_needNamedItem iX9_needNamedItem ⟨by decide, by decide⟩ rfl rfl rfl (Nat.le_of_ble_eq_true rfl) (og e2) (mc1 := 1) (ms1 := 6) (by decide) (by decide) (C_X9_needNamedItem S a0 a1 (.inr q1) e2 (qX_mk _ _)) ?_
    cases hf
    exact hk
def F_X9_needIndex_9 (S : pS) : Option ((pS) ⊕ (String × pS)) := some (.inr ("java/lang/IndexOutOfBoundsException", S))
set_option maxRecDepth 100000 in
set_option maxHeartbeats 4000000 in
theorem W_X9_needIndex_9 {X : pX} {Q : pO → Nat → pF → Prop} (S : pS) (r : (pS) ⊕ (String × pS)) (hf : F_X9_needIndex_9 S = some r) (hk : Sum.elim (fun q => Q (.inl none) q.1 q.2) (fun q => ∀ n', q.2.1 ≤ n' → Q (.inr q.1) n' (gjunk q.2.2 q.2.1)) r) : gW X mX9_needIndex 9 [none, none, none] [] S.1 S.2 Q 1 6 := by
  unfold F_X9_needIndex_9 at hf
  refine r_throwW (pc := 9) "java/lang/IndexOutOfBoundsException" 15 dX9_needIndex_9 dX9_needIndex_12 dX9_needIndex_13 dX9_needIndex_16 dX9_needIndex_19 xX9_206_210 rfl ⟨by decide, Nat.le_of_ble_eq_true rfl⟩ (by decide) (by decide) ?_
  cases hf
  exact hk
def F_X9_needIndex (S : pS) (a0 : Nat) (a1 : Int32) (a2 : Int32) : Option ((pS) ⊕ (String × pS)) := (oF S a0 9).bind fun _ => if a1 < 0 then (F_X9_needIndex_9 S) else (if a1 < a2 then (some (.inl S)) else (F_X9_needIndex_9 S))
set_option maxRecDepth 100000 in
set_option maxHeartbeats 4000000 in
theorem C_X9_needIndex {X : pX} {Q : pO → Nat → pF → Prop} (S : pS) (a0 : Nat) (a1 : Int32) (a2 : Int32) (r : (pS) ⊕ (String × pS)) (hf : F_X9_needIndex S a0 a1 a2 = some r) (hk : Sum.elim (fun q => Q (.inl none) q.1 q.2) (fun q => ∀ n', q.2.1 ≤ n' → Q (.inr q.1) n' (gjunk q.2.2 q.2.1)) r) : gC X mX9_needIndex [.ref a0, .int a1, .int a2] S.1 S.2 Q 1 6 := by
  refine gC_of (by decide) (Nat.le_of_ble_eq_true rfl) rfl ?_
  change gW _ _ _ [some (.ref a0), some (.int a1), some (.int a2)] _ _ _ _ _ _
  unfold F_X9_needIndex at hf
  obtain ⟨_, _, hf⟩ := obind hf
  refine r_iload_n (pc := 0) dX9_needIndex_0 rfl ?_
  refine r_if_lt (pc := 1) 9 dX9_needIndex_1 (by decide) (fun hc => ?_) (fun hc => ?_)
  · rw [if_pos hc] at hf
    refine gW.mono (mc := 1) (ms := 6) ?_ (fun _ _ _ q => q) (by decide) (by decide)
    exact gW.weak (by simp [gle]) (W_X9_needIndex_9 S r hf hk)
  · rw [if_neg hc] at hf
    refine r_iload_n (pc := 4) dX9_needIndex_4 rfl ?_
    refine r_iload_n (pc := 5) dX9_needIndex_5 rfl ?_
    refine r_icmp_lt (pc := 6) 20 dX9_needIndex_6 (by decide) (fun hc => ?_) (fun hc => ?_)
    · rw [if_pos hc] at hf
      refine r_return (pc := 20) dX9_needIndex_20 rfl ?_
      cases hf
      exact hk
    · rw [if_neg hc] at hf
      refine gW.mono (mc := 1) (ms := 6) ?_ (fun _ _ _ q => q) (by decide) (by decide)
      exact gW.weak (by simp [gle]) (W_X9_needIndex_9 S r hf hk)
def F_X9_detach (S : pS) (a0 : Nat) (a1 : Int32) (a2 : Int32) : Option ((Int32 × pS) ⊕ (String × pS)) := (oF S a0 9).bind fun _ => (F_X9_needItem S a0 a1).bind fun q1 => Sum.elim (fun q1 => (oGA q1 a0 9 0).bind fun x3 => (F_X8_childCount q1 x3 a1).bind fun q5 => (F_X9_needIndex q1 a0 a2 q5).bind fun q7 => Sum.elim (fun q7 => (oGA q7 a0 9 1).bind fun x9 => (oGA q7 a0 9 0).bind fun x11 => (F_X8_copyFrom q7 x9 x11).bind fun q13 => (oGA q13 a0 9 1).bind fun x15 => (F_X8_removeChild q13 x15 a1 a2).bind fun q17 => (oGA q17 a0 9 4).bind fun x19 => (oGA q17 a0 9 1).bind fun x21 => (F_X6_measure q17 x19 x21).bind fun q23 => (oGA q23 a0 9 1).bind fun x25 => (oGA q23 a0 9 4).bind fun x27 => (F_X6_familyOf q23 x27 (0 : Int32)).bind fun q29 => (F_X8_keepOnly q23 x25 q29).bind fun q31 => (F_X9_adoptDraft q31.2 a0).bind fun q33 => some (.inl (q31.1, q33))) (fun q7 => some (.inr q7)) q7) (fun q1 => some (.inr q1)) q1
set_option maxRecDepth 100000 in
set_option maxHeartbeats 4000000 in
theorem C_X9_detach {X : pX} {Q : pO → Nat → pF → Prop} (S : pS) (a0 : Nat) (a1 : Int32) (a2 : Int32) (r : (Int32 × pS) ⊕ (String × pS)) (hf : F_X9_detach S a0 a1 a2 = some r) (hk : Sum.elim (fun q => Q (.inl (some (.int q.1))) q.2.1 q.2.2) (fun q => ∀ n', q.2.1 ≤ n' → Q (.inr q.1) n' (gjunk q.2.2 q.2.1)) r) : gC X mX9_detach [.ref a0, .int a1, .int a2] S.1 S.2 Q 9 1608 := by
  refine gC_of (by decide) (Nat.le_of_ble_eq_true rfl) rfl ?_
  change gW _ _ _ [some (.ref a0), some (.int a1), some (.int a2), none] _ _ _ _ _ _
  unfold F_X9_detach at hf
  obtain ⟨_, _, hf⟩ := obind hf
  refine r_aload_n (pc := 0) dX9_detach_0 rfl ?_
  refine r_iload_n (pc := 1) dX9_detach_1 rfl ?_
  replace hf := obind hf
  obtain ⟨q1, e2, hf⟩ := hf
  rcases q1 with q1 | q1
  · simp only [Sum.elim_inl, Sum.elim_inr] at hf
    refine q_callV (pc := 2) (v := none) (S' := q1) mX9_needItem 9 [.int a1] dX9_detach_2 kX9_137 fX9_needItem iX9_needItem ⟨by decide, by decide⟩ rfl rfl rfl (Nat.le_of_ble_eq_true rfl) (og e2) (mc1 := 1) (ms1 := 6) (mc2 := 8) (ms2 := 1602) (by decide) (by decide) (C_X9_needItem S a0 a1 (.inl q1) e2 (qR_mk _ _)) ?_
    refine r_aload_n (pc := 5) dX9_detach_5 rfl ?_
    refine r_iload_n (pc := 6) dX9_detach_6 rfl ?_
    refine r_aload_n (pc := 7) dX9_detach_7 rfl ?_
    replace hf := obind hf
    obtain ⟨x3, e4, hf⟩ := hf
    refine q_getA (pc := 8) dX9_detach_8 gX9_12 e4 ?_
    refine r_iload_n (pc := 11) dX9_detach_11 rfl ?_
    replace hf := obind hf
    obtain ⟨q5, e6, hf⟩ := hf
    refine q_callV (pc := 12) (v := some (.int q5)) (S' := q1) mX8_childCount 8 [.int a1] dX9_detach_12 kX9_141 fX8_childCount iX8_childCount ⟨by decide, by decide⟩ rfl rfl rfl (Nat.le_of_ble_eq_true rfl) (og e6) (mc1 := 0) (ms1 := 0) (mc2 := 8) (ms2 := 1602) (by decide) (by decide) (C_X8_childCount q1 x3 a1 q5 e6 (qR_mk _ _)) ?_
    change gW _ _ _ _ (.int q5 :: _) _ _ _ _ _
    replace hf := obind hf
    obtain ⟨q7, e8, hf⟩ := hf
    rcases q7 with q7 | q7
    · simp only [Sum.elim_inl, Sum.elim_inr] at hf
      refine q_callV (pc := 15) (v := none) (S' := q7) mX9_needIndex 9 [.int a2, .int q5] dX9_detach_15 kX9_189 fX9_needIndex iX9_needIndex ⟨by decide, by decide⟩ rfl rfl rfl (Nat.le_of_ble_eq_true rfl) (og e8) (mc1 := 1) (ms1 := 6) (mc2 := 7) (ms2 := 1596) (by decide) (by decide) (C_X9_needIndex q1 a0 a2 q5 (.inl q7) e8 (qR_mk _ _)) ?_
      refine r_aload_n (pc := 18) dX9_detach_18 rfl ?_
      replace hf := obind hf
      obtain ⟨x9, e10, hf⟩ := hf
      refine q_getA (pc := 19) dX9_detach_19 gX9_16 e10 ?_
      refine r_aload_n (pc := 22) dX9_detach_22 rfl ?_
      replace hf := obind hf
      obtain ⟨x11, e12, hf⟩ := hf
      refine q_getA (pc := 23) dX9_detach_23 gX9_12 e12 ?_
      replace hf := obind hf
      obtain ⟨q13, e14, hf⟩ := hf
      refine q_callV (pc := 26) (v := none) (S' := q13) mX8_copyFrom 8 [.ref x11] dX9_detach_26 kX9_165 fX8_copyFrom iX8_copyFrom ⟨by decide, by decide⟩ rfl rfl rfl (Nat.le_of_ble_eq_true rfl) (og e14) (mc1 := 0) (ms1 := 0) (mc2 := 7) (ms2 := 1596) (by decide) (by decide) (C_X8_copyFrom q7 x9 x11 q13 e14 (qR_mk _ _)) ?_
      refine r_aload_n (pc := 29) dX9_detach_29 rfl ?_
      replace hf := obind hf
      obtain ⟨x15, e16, hf⟩ := hf
      refine q_getA (pc := 30) dX9_detach_30 gX9_16 e16 ?_
      refine r_iload_n (pc := 33) dX9_detach_33 rfl ?_
      refine r_iload_n (pc := 34) dX9_detach_34 rfl ?_
      replace hf := obind hf
      obtain ⟨q17, e18, hf⟩ := hf
      refine q_callV (pc := 35) (v := none) (S' := q17) mX8_removeChild 8 [.int a1, .int a2] dX9_detach_35 kX9_192 fX8_removeChild iX8_removeChild ⟨by decide, by decide⟩ rfl rfl rfl (Nat.le_of_ble_eq_true rfl) (og e18) (mc1 := 0) (ms1 := 0) (mc2 := 7) (ms2 := 1596) (by decide) (by decide) (C_X8_removeChild q13 x15 a1 a2 q17 e18 (qR_mk _ _)) ?_
      refine r_aload_n (pc := 38) dX9_detach_38 rfl ?_
      replace hf := obind hf
      obtain ⟨x19, e20, hf⟩ := hf
      refine q_getA (pc := 39) dX9_detach_39 gX9_29 e20 ?_
      refine r_aload_n (pc := 42) dX9_detach_42 rfl ?_
      replace hf := obind hf
      obtain ⟨x21, e22, hf⟩ := hf
      refine q_getA (pc := 43) dX9_detach_43 gX9_16 e22 ?_
      replace hf := obind hf
      obtain ⟨q23, e24, hf⟩ := hf
      refine q_callV (pc := 46) (v := none) (S' := q23) mX6_measure 6 [.ref x21] dX9_detach_46 kX9_195 fX6_measure iX6_measure ⟨by decide, by decide⟩ rfl rfl rfl (Nat.le_of_ble_eq_true rfl) (og e24) (mc1 := 0) (ms1 := 0) (mc2 := 7) (ms2 := 1596) (by decide) (by decide) (C_X6_measure q17 x19 x21 q23 e24 (qR_mk _ _)) ?_
      refine r_aload_n (pc := 49) dX9_detach_49 rfl ?_
      replace hf := obind hf
      obtain ⟨x25, e26, hf⟩ := hf
      refine q_getA (pc := 50) dX9_detach_50 gX9_16 e26 ?_
      refine r_aload_n (pc := 53) dX9_detach_53 rfl ?_
      replace hf := obind hf
      obtain ⟨x27, e28, hf⟩ := hf
      refine q_getA (pc := 54) dX9_detach_54 gX9_29 e28 ?_
      refine r_iconst (pc := 57) (0 : Int32) dX9_detach_57 (by decide) ?_
      replace hf := obind hf
      obtain ⟨q29, e30, hf⟩ := hf
      refine q_callV (pc := 58) (v := some (.long q29)) (S' := q23) mX6_familyOf 6 [.int (0 : Int32)] dX9_detach_58 kX9_198 fX6_familyOf iX6_familyOf ⟨by decide, by decide⟩ rfl rfl rfl (Nat.le_of_ble_eq_true rfl) (og e30) (mc1 := 0) (ms1 := 0) (mc2 := 7) (ms2 := 1596) (by decide) (by decide) (C_X6_familyOf q23 x27 (0 : Int32) q29 e30 (qR_mk _ _)) ?_
      change gW _ _ _ _ (.long q29 :: _) _ _ _ _ _
      replace hf := obind hf
      obtain ⟨q31, e32, hf⟩ := hf
      refine q_callV (pc := 61) (v := some (.int q31.1)) (S' := q31.2) mX8_keepOnly 8 [.long q29] dX9_detach_61 kX9_202 fX8_keepOnly iX8_keepOnly ⟨by decide, by decide⟩ rfl rfl rfl (Nat.le_of_ble_eq_true rfl) (og e32) (mc1 := 0) (ms1 := 0) (mc2 := 7) (ms2 := 1596) (by decide) (by decide) (C_X8_keepOnly q23 x25 q29 q31 e32 (qR_mk _ _)) ?_
      change gW _ _ _ _ (.int q31.1 :: _) _ _ _ _ _
      refine r_istore_n (pc := 64) dX9_detach_64 (by decide) ?_
      change gW _ _ _ [some (.ref a0), some (.int a1), some (.int a2), some (.int q31.1)] _ _ _ _ _ _
      refine r_aload_n (pc := 65) dX9_detach_65 rfl ?_
      replace hf := obind hf
      obtain ⟨q33, e34, hf⟩ := hf
      refine q_callV (pc := 66) (v := none) (S' := q33) mX9_adoptDraft 9 [] dX9_detach_66 kX9_176 fX9_adoptDraft iX9_adoptDraft ⟨by decide, by decide⟩ rfl rfl rfl (Nat.le_of_ble_eq_true rfl) (og e34) (mc1 := 7) (ms1 := 1596) (mc2 := 0) (ms2 := 0) (by decide) (by decide) (C_X9_adoptDraft q31.2 a0 q33 e34 (qR_mk _ _)) ?_
      refine r_iload_n (pc := 69) dX9_detach_69 rfl ?_
      refine r_ireturn (pc := 70) .int dX9_detach_70 rfl rfl ?_
      cases hf
      exact hk
    · simp only [Sum.elim_inl, Sum.elim_inr] at hf
      refine q_callVt (pc := 15) (E := q7.1) (S' := q7.2) mX9_needIndex 9 [.int a2, .int q5] dX9_detach_15 kX9_189 fX9_needIndex iX9_needIndex ⟨by decide, by decide⟩ rfl rfl rfl (Nat.le_of_ble_eq_true rfl) (og e8) (mc1 := 1) (ms1 := 6) (by decide) (by decide) (C_X9_needIndex q1 a0 a2 q5 (.inr q7) e8 (qX_mk _ _)) ?_
      cases hf
      exact hk
  · simp only [Sum.elim_inl, Sum.elim_inr] at hf
    refine q_callVt (pc := 2) (E := q1.1) (S' := q1.2) mX9_needItem 9 [.int a1] dX9_detach_2 kX9_137 fX9_needItem iX9_needItem ⟨by decide, by decide⟩ rfl rfl rfl (Nat.le_of_ble_eq_true rfl) (og e2) (mc1 := 1) (ms1 := 6) (by decide) (by decide) (C_X9_needItem S a0 a1 (.inr q1) e2 (qX_mk _ _)) ?_
    cases hf
    exact hk
abbrev L_X9_takeBlock_3 (l0 : Nat) (l1 : Int32) (l2 : Int32) (l3 : Int32) : Int32 × pS → List (Option Value) := fun a => [some (.ref l0), some (.int l1), some (.int l2), some (.int l3), some (.int a.1)]
abbrev s_X9_takeBlock_3 (l0 : Nat) (l1 : Int32) (l2 : Int32) (l3 : Int32) : Int32 × pS → pS := fun a => a.2
abbrev K_X9_takeBlock_3 (X : pX) (Q : pO → Nat → pF → Prop) (mc ms : Nat) (l0 : Nat) (l1 : Int32) (l2 : Int32) (l3 : Int32) : pS → Prop := (fun b => gW X mX9_takeBlock 40 [some (.ref l0), some (.int l1), some (.int l2), some (.int l3), none] [] b.1 b.2 Q mc ms)
def F_X9_takeBlock_3 (l0 : Nat) (l1 : Int32) (l2 : Int32) (l3 : Int32) : Int32 × pS → Option ((Int32 × pS) ⊕ (pS)) := fun a => if l3 ≤ a.1 then (some (.inr a.2)) else ((oGA a.2 l0 9 14).bind fun x1 => (oGA a.2 l0 9 1).bind fun x3 => (F_X8_childAt a.2 x3 l1 l2).bind fun q5 => (oSI a.2 x1 .int a.1 q5).bind fun S7 => (oGA S7 l0 9 1).bind fun x9 => (F_X8_removeChild S7 x9 l1 l2).bind fun q11 => some (.inl (a.1 + (1 : Int32), q11)))
set_option maxRecDepth 100000 in
set_option maxHeartbeats 4000000 in
theorem W_X9_takeBlock_3 {X : pX} {Q : pO → Nat → pF → Prop} {mc ms : Nat} (l0 : Nat) (l1 : Int32) (l2 : Int32) (l3 : Int32) : ∀ (a : Int32 × pS) (r : (Int32 × pS) ⊕ (pS)), F_X9_takeBlock_3 l0 l1 l2 l3 a = some r → Sum.elim (fun a' => gW X mX9_takeBlock 3 (L_X9_takeBlock_3 l0 l1 l2 l3 a') [] (s_X9_takeBlock_3 l0 l1 l2 l3 a').1 (s_X9_takeBlock_3 l0 l1 l2 l3 a').2 Q mc ms) (K_X9_takeBlock_3 X Q mc ms l0 l1 l2 l3) r → gW X mX9_takeBlock 3 (L_X9_takeBlock_3 l0 l1 l2 l3 a) [] (s_X9_takeBlock_3 l0 l1 l2 l3 a).1 (s_X9_takeBlock_3 l0 l1 l2 l3 a).2 Q mc ms := by
  intro a r hf hk
  obtain ⟨l4, S⟩ := a
  unfold F_X9_takeBlock_3 at hf
  try dsimp only at hf
  change gW _ _ _ [some (.ref l0), some (.int l1), some (.int l2), some (.int l3), some (.int l4)] _ S.1 S.2 _ _ _
  refine r_iload (pc := 3) dX9_takeBlock_3 rfl ?_
  refine r_iload_n (pc := 5) dX9_takeBlock_5 rfl ?_
  refine r_icmp_ge (pc := 6) 40 dX9_takeBlock_6 (by decide) (fun hc => ?_) (fun hc => ?_)
  · rw [if_pos hc] at hf
    cases hf
    exact gW.weak (by simp [gle]) hk
  · rw [if_neg hc] at hf
    refine r_aload_n (pc := 9) dX9_takeBlock_9 rfl ?_
    replace hf := obind hf
    obtain ⟨x1, e2, hf⟩ := hf
    refine q_getA (pc := 10) dX9_takeBlock_10 gX9_88 e2 ?_
    refine r_iload (pc := 13) dX9_takeBlock_13 rfl ?_
    refine r_aload_n (pc := 15) dX9_takeBlock_15 rfl ?_
    replace hf := obind hf
    obtain ⟨x3, e4, hf⟩ := hf
    refine q_getA (pc := 16) dX9_takeBlock_16 gX9_16 e4 ?_
    refine r_iload_n (pc := 19) dX9_takeBlock_19 rfl ?_
    refine r_iload_n (pc := 20) dX9_takeBlock_20 rfl ?_
    replace hf := obind hf
    obtain ⟨q5, e6, hf⟩ := hf
    refine q_callV (pc := 21) (v := some (.int q5)) (S' := S) mX8_childAt 8 [.int l1, .int l2] dX9_takeBlock_21 kX9_232 fX8_childAt iX8_childAt ⟨by decide, by decide⟩ rfl rfl rfl (Nat.le_of_ble_eq_true rfl) (og e6) (mc1 := 0) (ms1 := 0) (mc2 := mc) (ms2 := ms) (by omega) (by omega) (C_X8_childAt S x3 l1 l2 q5 e6 (qR_mk _ _)) ?_
    change gW _ _ _ _ (.int q5 :: _) _ _ _ _ _
    replace hf := obind hf
    obtain ⟨S7, e8, hf⟩ := hf
    refine q_iast (pc := 24) dX9_takeBlock_24 e8 ?_
    refine r_aload_n (pc := 25) dX9_takeBlock_25 rfl ?_
    replace hf := obind hf
    obtain ⟨x9, e10, hf⟩ := hf
    refine q_getA (pc := 26) dX9_takeBlock_26 gX9_16 e10 ?_
    refine r_iload_n (pc := 29) dX9_takeBlock_29 rfl ?_
    refine r_iload_n (pc := 30) dX9_takeBlock_30 rfl ?_
    replace hf := obind hf
    obtain ⟨q11, e12, hf⟩ := hf
    refine q_callV (pc := 31) (v := none) (S' := q11) mX8_removeChild 8 [.int l1, .int l2] dX9_takeBlock_31 kX9_192 fX8_removeChild iX8_removeChild ⟨by decide, by decide⟩ rfl rfl rfl (Nat.le_of_ble_eq_true rfl) (og e12) (mc1 := 0) (ms1 := 0) (mc2 := mc) (ms2 := ms) (by omega) (by omega) (C_X8_removeChild S7 x9 l1 l2 q11 e12 (qR_mk _ _)) ?_
    refine r_iinc (pc := 34) dX9_takeBlock_34 rfl (by decide) ?_
    change gW _ _ _ [some (.ref l0), some (.int l1), some (.int l2), some (.int l3), some (.int (l4 + (1 : Int32)))] _ _ _ _ _ _
    refine r_goto (pc := 37) 3 dX9_takeBlock_37 (by decide) ?_
    cases hf
    exact gW.weak (by simp [gle]) hk
def F_X9_takeBlock (S : pS) (a0 : Nat) (a1 : Int32) (a2 : Int32) (a3 : Int32) : Option (pS) := (oF S a0 9).bind fun _ => (iter (F_X9_takeBlock_3 a0 a1 a2 a3) fu ((0 : Int32), S)).bind fun r13 => some r13
set_option maxRecDepth 100000 in
set_option maxHeartbeats 4000000 in
theorem C_X9_takeBlock {X : pX} {Q : pO → Nat → pF → Prop} (S : pS) (a0 : Nat) (a1 : Int32) (a2 : Int32) (a3 : Int32) (r : pS) (hf : F_X9_takeBlock S a0 a1 a2 a3 = some r) (hk : Q (.inl none) r.1 r.2) : gC X mX9_takeBlock [.ref a0, .int a1, .int a2, .int a3] S.1 S.2 Q 0 0 := by
  refine gC_of (by decide) (Nat.le_of_ble_eq_true rfl) rfl ?_
  change gW _ _ _ [some (.ref a0), some (.int a1), some (.int a2), some (.int a3), none] _ _ _ _ _ _
  unfold F_X9_takeBlock at hf
  obtain ⟨_, _, hf⟩ := obind hf
  refine r_iconst (pc := 0) (0 : Int32) dX9_takeBlock_0 (by decide) ?_
  refine r_istore (pc := 1) dX9_takeBlock_1 (by decide) ?_
  change gW _ _ _ [some (.ref a0), some (.int a1), some (.int a2), some (.int a3), some (.int (0 : Int32))] _ _ _ _ _ _
  replace hf := obind hf
  obtain ⟨r13, e14, hf⟩ := hf
  refine gW.weak (ls' := [some (.ref a0), some (.int a1), some (.int a2), some (.int a3), some (.int (0 : Int32))]) (by simp [gle]) ?_
  refine g_iter (L := L_X9_takeBlock_3 a0 a1 a2 a3) (s := s_X9_takeBlock_3 a0 a1 a2 a3) (K := K_X9_takeBlock_3 X Q _ _ a0 a1 a2 a3) (W_X9_takeBlock_3 a0 a1 a2 a3) fu ((0 : Int32), S) _ e14 ?_
  show gW _ _ 40 [some (.ref a0), some (.int a1), some (.int a2), some (.int a3), none] [] r13.1 r13.2 _ _ _
  refine r_return (pc := 40) dX9_takeBlock_40 rfl ?_
  cases hf
  exact hk
abbrev L_X9_putBlock_3 (l0 : Nat) (l1 : Int32) (l2 : Int32) (l3 : Int32) (l4 : Int32) : Int32 × pS → List (Option Value) := fun a => [some (.ref l0), some (.int l1), some (.int l2), some (.int l3), some (.int l4), some (.int a.1), none]
abbrev s_X9_putBlock_3 (l0 : Nat) (l1 : Int32) (l2 : Int32) (l3 : Int32) (l4 : Int32) : Int32 × pS → pS := fun a => a.2
abbrev K_X9_putBlock_3 (X : pX) (Q : pO → Nat → pF → Prop) (mc ms : Nat) (l0 : Nat) (l1 : Int32) (l2 : Int32) (l3 : Int32) (l4 : Int32) : (Int32 × Int32 × pS) ⊕ (pS) → Prop := (Sum.elim (fun b => gW X mX9_putBlock 46 [some (.ref l0), some (.int l1), some (.int l2), some (.int l3), some (.int l4), some (.int b.1), some (.int b.2.1)] [] b.2.2.1 b.2.2.2 Q mc ms) (fun b => gW X mX9_putBlock 86 [some (.ref l0), some (.int l1), some (.int l2), some (.int l3), some (.int l4), none, none] [] b.1 b.2 Q mc ms))
def F_X9_putBlock_3 (l0 : Nat) (l1 : Int32) (l2 : Int32) (l3 : Int32) (l4 : Int32) : Int32 × pS → Option ((Int32 × pS) ⊕ ((Int32 × Int32 × pS) ⊕ (pS))) := fun a => if l2 ≤ a.1 then (some (.inr (.inr a.2))) else ((oGA a.2 l0 9 4).bind fun x1 => (oGA a.2 l0 9 1).bind fun x3 => (F_X6_measure a.2 x1 x3).bind fun q5 => (oGA q5 l0 9 4).bind fun x7 => (oGA q5 l0 9 1).bind fun x9 => (oGA q5 l0 9 14).bind fun x11 => (oAI q5 x11 .int a.1).bind fun x13 => (F_X6_reasonAgainst q5 x7 x9 x13 l3).bind fun q15 => if q15 = 0 then ((oGA q5 l0 9 1).bind fun x17 => (oGA q5 l0 9 14).bind fun x19 => (oAI q5 x19 .int a.1).bind fun x21 => (F_X8_insertChild q5 x17 l3 (l4 + a.1) x21).bind fun q23 => some (.inl (a.1 + (1 : Int32), q23))) else (some (.inr (.inl (a.1, q15, q5)))))
set_option maxRecDepth 100000 in
set_option maxHeartbeats 4000000 in
theorem W_X9_putBlock_3 {X : pX} {Q : pO → Nat → pF → Prop} {mc ms : Nat} (l0 : Nat) (l1 : Int32) (l2 : Int32) (l3 : Int32) (l4 : Int32) : ∀ (a : Int32 × pS) (r : (Int32 × pS) ⊕ ((Int32 × Int32 × pS) ⊕ (pS))), F_X9_putBlock_3 l0 l1 l2 l3 l4 a = some r → Sum.elim (fun a' => gW X mX9_putBlock 3 (L_X9_putBlock_3 l0 l1 l2 l3 l4 a') [] (s_X9_putBlock_3 l0 l1 l2 l3 l4 a').1 (s_X9_putBlock_3 l0 l1 l2 l3 l4 a').2 Q mc ms) (K_X9_putBlock_3 X Q mc ms l0 l1 l2 l3 l4) r → gW X mX9_putBlock 3 (L_X9_putBlock_3 l0 l1 l2 l3 l4 a) [] (s_X9_putBlock_3 l0 l1 l2 l3 l4 a).1 (s_X9_putBlock_3 l0 l1 l2 l3 l4 a).2 Q mc ms := by
  intro a r hf hk
  obtain ⟨l5, S⟩ := a
  unfold F_X9_putBlock_3 at hf
  try dsimp only at hf
  change gW _ _ _ [some (.ref l0), some (.int l1), some (.int l2), some (.int l3), some (.int l4), some (.int l5), none] _ S.1 S.2 _ _ _
  refine r_iload (pc := 3) dX9_putBlock_3 rfl ?_
  refine r_iload_n (pc := 5) dX9_putBlock_5 rfl ?_
  refine r_icmp_ge (pc := 6) 86 dX9_putBlock_6 (by decide) (fun hc => ?_) (fun hc => ?_)
  · rw [if_pos hc] at hf
    cases hf
    exact gW.weak (by simp [gle]) hk
  · rw [if_neg hc] at hf
    refine r_aload_n (pc := 9) dX9_putBlock_9 rfl ?_
    replace hf := obind hf
    obtain ⟨x1, e2, hf⟩ := hf
    refine q_getA (pc := 10) dX9_putBlock_10 gX9_29 e2 ?_
    refine r_aload_n (pc := 13) dX9_putBlock_13 rfl ?_
    replace hf := obind hf
    obtain ⟨x3, e4, hf⟩ := hf
    refine q_getA (pc := 14) dX9_putBlock_14 gX9_16 e4 ?_
    replace hf := obind hf
    obtain ⟨q5, e6, hf⟩ := hf
    refine q_callV (pc := 17) (v := none) (S' := q5) mX6_measure 6 [.ref x3] dX9_putBlock_17 kX9_195 fX6_measure iX6_measure ⟨by decide, by decide⟩ rfl rfl rfl (Nat.le_of_ble_eq_true rfl) (og e6) (mc1 := 0) (ms1 := 0) (mc2 := mc) (ms2 := ms) (by omega) (by omega) (C_X6_measure S x1 x3 q5 e6 (qR_mk _ _)) ?_
    refine r_aload_n (pc := 20) dX9_putBlock_20 rfl ?_
    replace hf := obind hf
    obtain ⟨x7, e8, hf⟩ := hf
    refine q_getA (pc := 21) dX9_putBlock_21 gX9_29 e8 ?_
    refine r_aload_n (pc := 24) dX9_putBlock_24 rfl ?_
    replace hf := obind hf
    obtain ⟨x9, e10, hf⟩ := hf
    refine q_getA (pc := 25) dX9_putBlock_25 gX9_16 e10 ?_
    refine r_aload_n (pc := 28) dX9_putBlock_28 rfl ?_
    replace hf := obind hf
    obtain ⟨x11, e12, hf⟩ := hf
    refine q_getA (pc := 29) dX9_putBlock_29 gX9_88 e12 ?_
    refine r_iload (pc := 32) dX9_putBlock_32 rfl ?_
    replace hf := obind hf
    obtain ⟨x13, e14, hf⟩ := hf
    refine q_iald (pc := 34) dX9_putBlock_34 e14 ?_
    refine r_iload_n (pc := 35) dX9_putBlock_35 rfl ?_
    replace hf := obind hf
    obtain ⟨q15, e16, hf⟩ := hf
    refine q_callV (pc := 36) (v := some (.int q15)) (S' := q5) mX6_reasonAgainst 6 [.ref x9, .int x13, .int l3] dX9_putBlock_36 kX9_182 fX6_reasonAgainst iX6_reasonAgainst ⟨by decide, by decide⟩ rfl rfl rfl (Nat.le_of_ble_eq_true rfl) (og e16) (mc1 := 0) (ms1 := 0) (mc2 := mc) (ms2 := ms) (by omega) (by omega) (C_X6_reasonAgainst q5 x7 x9 x13 l3 q15 e16 (qR_mk _ _)) ?_
    change gW _ _ _ _ (.int q15 :: _) _ _ _ _ _
    refine r_istore (pc := 39) dX9_putBlock_39 (by decide) ?_
    change gW _ _ _ [some (.ref l0), some (.int l1), some (.int l2), some (.int l3), some (.int l4), some (.int l5), some (.int q15)] _ _ _ _ _ _
    refine r_iload (pc := 41) dX9_putBlock_41 rfl ?_
    refine r_if_eq (pc := 43) 60 dX9_putBlock_43 (by decide) (fun hc => ?_) (fun hc => ?_)
    · rw [if_pos hc] at hf
      refine r_aload_n (pc := 60) dX9_putBlock_60 rfl ?_
      replace hf := obind hf
      obtain ⟨x17, e18, hf⟩ := hf
      refine q_getA (pc := 61) dX9_putBlock_61 gX9_16 e18 ?_
      refine r_iload_n (pc := 64) dX9_putBlock_64 rfl ?_
      refine r_iload (pc := 65) dX9_putBlock_65 rfl ?_
      refine r_iload (pc := 67) dX9_putBlock_67 rfl ?_
      refine r_iadd (pc := 69) dX9_putBlock_69 ?_
      refine r_aload_n (pc := 70) dX9_putBlock_70 rfl ?_
      replace hf := obind hf
      obtain ⟨x19, e20, hf⟩ := hf
      refine q_getA (pc := 71) dX9_putBlock_71 gX9_88 e20 ?_
      refine r_iload (pc := 74) dX9_putBlock_74 rfl ?_
      replace hf := obind hf
      obtain ⟨x21, e22, hf⟩ := hf
      refine q_iald (pc := 76) dX9_putBlock_76 e22 ?_
      replace hf := obind hf
      obtain ⟨q23, e24, hf⟩ := hf
      refine q_callV (pc := 77) (v := none) (S' := q23) mX8_insertChild 8 [.int l3, .int (l4 + l5), .int x21] dX9_putBlock_77 kX9_173 fX8_insertChild iX8_insertChild ⟨by decide, by decide⟩ rfl rfl rfl (Nat.le_of_ble_eq_true rfl) (og e24) (mc1 := 0) (ms1 := 0) (mc2 := mc) (ms2 := ms) (by omega) (by omega) (C_X8_insertChild q5 x17 l3 (l4 + l5) x21 q23 e24 (qR_mk _ _)) ?_
      refine r_iinc (pc := 80) dX9_putBlock_80 rfl (by decide) ?_
      change gW _ _ _ [some (.ref l0), some (.int l1), some (.int l2), some (.int l3), some (.int l4), some (.int (l5 + (1 : Int32))), some (.int q15)] _ _ _ _ _ _
      refine r_goto (pc := 83) 3 dX9_putBlock_83 (by decide) ?_
      cases hf
      exact gW.weak (by simp [gle]) hk
    · rw [if_neg hc] at hf
      cases hf
      exact gW.weak (by simp [gle]) hk
def F_X9_putBlock (S : pS) (a0 : Nat) (a1 : Int32) (a2 : Int32) (a3 : Int32) (a4 : Int32) : Option (Int32 × pS) := (oF S a0 9).bind fun _ => (iter (F_X9_putBlock_3 a0 a1 a2 a3 a4) fu ((0 : Int32), S)).bind fun r25 => Sum.elim (fun q27 => (oGA q27.2.2 a0 9 12).bind fun x28 => (F_X0_keep q27.2.2 x28 a1 q27.1 q27.2.1).bind fun q30 => some ((0 : Int32), q30)) (fun q27 => some ((1 : Int32), q27)) r25
set_option maxRecDepth 100000 in
set_option maxHeartbeats 4000000 in
theorem C_X9_putBlock {X : pX} {Q : pO → Nat → pF → Prop} (S : pS) (a0 : Nat) (a1 : Int32) (a2 : Int32) (a3 : Int32) (a4 : Int32) (r : Int32 × pS) (hf : F_X9_putBlock S a0 a1 a2 a3 a4 = some r) (hk : Q (.inl (some (.int r.1))) r.2.1 r.2.2) : gC X mX9_putBlock [.ref a0, .int a1, .int a2, .int a3, .int a4] S.1 S.2 Q 0 0 := by
  refine gC_of (by decide) (Nat.le_of_ble_eq_true rfl) rfl ?_
  change gW _ _ _ [some (.ref a0), some (.int a1), some (.int a2), some (.int a3), some (.int a4), none, none] _ _ _ _ _ _
  unfold F_X9_putBlock at hf
  obtain ⟨_, _, hf⟩ := obind hf
  refine r_iconst (pc := 0) (0 : Int32) dX9_putBlock_0 (by decide) ?_
  refine r_istore (pc := 1) dX9_putBlock_1 (by decide) ?_
  change gW _ _ _ [some (.ref a0), some (.int a1), some (.int a2), some (.int a3), some (.int a4), some (.int (0 : Int32)), none] _ _ _ _ _ _
  replace hf := obind hf
  obtain ⟨r25, e26, hf⟩ := hf
  refine gW.weak (ls' := [some (.ref a0), some (.int a1), some (.int a2), some (.int a3), some (.int a4), some (.int (0 : Int32)), none]) (by simp [gle]) ?_
  refine g_iter (L := L_X9_putBlock_3 a0 a1 a2 a3 a4) (s := s_X9_putBlock_3 a0 a1 a2 a3 a4) (K := K_X9_putBlock_3 X Q _ _ a0 a1 a2 a3 a4) (W_X9_putBlock_3 a0 a1 a2 a3 a4) fu ((0 : Int32), S) _ e26 ?_
  rcases r25 with q27 | q27
  · simp only [Sum.elim_inl, Sum.elim_inr] at hf
    show gW _ _ 46 [some (.ref a0), some (.int a1), some (.int a2), some (.int a3), some (.int a4), some (.int q27.1), some (.int q27.2.1)] [] q27.2.2.1 q27.2.2.2 _ _ _
    refine r_aload_n (pc := 46) dX9_putBlock_46 rfl ?_
    replace hf := obind hf
    obtain ⟨x28, e29, hf⟩ := hf
    refine q_getA (pc := 47) dX9_putBlock_47 gX9_80 e29 ?_
    refine r_iload_n (pc := 50) dX9_putBlock_50 rfl ?_
    refine r_iload (pc := 51) dX9_putBlock_51 rfl ?_
    refine r_iload (pc := 53) dX9_putBlock_53 rfl ?_
    replace hf := obind hf
    obtain ⟨q30, e31, hf⟩ := hf
    refine q_callV (pc := 55) (v := none) (S' := q30) mX0_keep 0 [.int a1, .int q27.1, .int q27.2.1] dX9_putBlock_55 kX9_156 fX0_keep iX0_keep ⟨by decide, by decide⟩ rfl rfl rfl (Nat.le_of_ble_eq_true rfl) (og e31) (mc1 := 0) (ms1 := 0) (mc2 := 0) (ms2 := 0) (by decide) (by decide) (C_X0_keep q27.2.2 x28 a1 q27.1 q27.2.1 q30 e31 (qR_mk _ _)) ?_
    refine r_iconst (pc := 58) (0 : Int32) dX9_putBlock_58 (by decide) ?_
    refine r_ireturn (pc := 59) .boolean dX9_putBlock_59 rfl rfl ?_
    cases hf
    exact hk
  · simp only [Sum.elim_inl, Sum.elim_inr] at hf
    show gW _ _ 86 [some (.ref a0), some (.int a1), some (.int a2), some (.int a3), some (.int a4), none, none] [] q27.1 q27.2 _ _ _
    refine r_iconst (pc := 86) (1 : Int32) dX9_putBlock_86 (by decide) ?_
    refine r_ireturn (pc := 87) .boolean dX9_putBlock_87 rfl rfl ?_
    cases hf
    exact hk
def F_X9_moveBlock_83 (S : pS) (l0 : Nat) (l1 : Int32) (l2 : Int32) (l4 : Int32) (l5 : Int32) (l6 : Int32) (t0 : Nat) (t1 : Int32) (t2 : Int32) (t3 : Int32) : Option ((Int32 × pS) ⊕ (String × pS)) := (F_X9_needGap S t0 t1 (t2 - t3)).bind fun q21 => Sum.elim (fun q21 => (oGA q21 l0 9 1).bind fun x23 => (oGA q21 l0 9 0).bind fun x25 => (F_X8_copyFrom q21 x23 x25).bind fun q27 => (F_X9_takeBlock q27 l0 l1 l2 l6).bind fun q29 => (F_X9_putBlock q29 l0 (30 : Int32) l6 l4 l5).bind fun q31 => if ¬ q31.1 = 0 then ((F_X9_adoptDraft q31.2 l0).bind fun q33 => some (.inl (l6, q33))) else (some (.inr ("java/lang/UnsupportedOperationException", q31.2)))) (fun q21 => some (.inr q21)) q21
set_option maxRecDepth 100000 in
set_option maxHeartbeats 4000000 in
theorem W_X9_moveBlock_83 {X : pX} {Q : pO → Nat → pF → Prop} (S : pS) (l0 : Nat) (l1 : Int32) (l2 : Int32) (l4 : Int32) (l5 : Int32) (l6 : Int32) (t0 : Nat) (t1 : Int32) (t2 : Int32) (t3 : Int32) (r : (Int32 × pS) ⊕ (String × pS)) (hf : F_X9_moveBlock_83 S l0 l1 l2 l4 l5 l6 t0 t1 t2 t3 = some r) (hk : Sum.elim (fun q => Q (.inl (some (.int q.1))) q.2.1 q.2.2) (fun q => ∀ n', q.2.1 ≤ n' → Q (.inr q.1) n' (gjunk q.2.2 q.2.1)) r) : gW X mX9_moveBlock 83 [some (.ref l0), some (.int l1), some (.int l2), none, some (.int l4), some (.int l5), some (.int l6)] [.int t3, .int t2, .int t1, .ref t0] S.1 S.2 Q 8 1602 := by
  unfold F_X9_moveBlock_83 at hf
  refine r_isub (pc := 83) dX9_moveBlock_83 ?_
  replace hf := obind hf
  obtain ⟨q21, e22, hf⟩ := hf
  rcases q21 with q21 | q21
  · simp only [Sum.elim_inl, Sum.elim_inr] at hf
    refine q_callV (pc := 84) (v := none) (S' := q21) mX9_needGap 9 [.int t1, .int (t2 - t3)] dX9_moveBlock_84 kX9_145 fX9_needGap iX9_needGap ⟨by decide, by decide⟩ rfl rfl rfl (Nat.le_of_ble_eq_true rfl) (og e22) (mc1 := 1) (ms1 := 6) (mc2 := 7) (ms2 := 1596) (by decide) (by decide) (C_X9_needGap S t0 t1 (t2 - t3) (.inl q21) e22 (qR_mk _ _)) ?_
    refine r_aload_n (pc := 87) dX9_moveBlock_87 rfl ?_
    replace hf := obind hf
    obtain ⟨x23, e24, hf⟩ := hf
    refine q_getA (pc := 88) dX9_moveBlock_88 gX9_16 e24 ?_
    refine r_aload_n (pc := 91) dX9_moveBlock_91 rfl ?_
    replace hf := obind hf
    obtain ⟨x25, e26, hf⟩ := hf
    refine q_getA (pc := 92) dX9_moveBlock_92 gX9_12 e26 ?_
    replace hf := obind hf
    obtain ⟨q27, e28, hf⟩ := hf
    refine q_callV (pc := 95) (v := none) (S' := q27) mX8_copyFrom 8 [.ref x25] dX9_moveBlock_95 kX9_165 fX8_copyFrom iX8_copyFrom ⟨by decide, by decide⟩ rfl rfl rfl (Nat.le_of_ble_eq_true rfl) (og e28) (mc1 := 0) (ms1 := 0) (mc2 := 7) (ms2 := 1596) (by decide) (by decide) (C_X8_copyFrom q21 x23 x25 q27 e28 (qR_mk _ _)) ?_
    refine r_aload_n (pc := 98) dX9_moveBlock_98 rfl ?_
    refine r_iload_n (pc := 99) dX9_moveBlock_99 rfl ?_
    refine r_iload_n (pc := 100) dX9_moveBlock_100 rfl ?_
    refine r_iload (pc := 101) dX9_moveBlock_101 rfl ?_
    replace hf := obind hf
    obtain ⟨q29, e30, hf⟩ := hf
    refine q_callV (pc := 103) (v := none) (S' := q29) mX9_takeBlock 9 [.int l1, .int l2, .int l6] dX9_moveBlock_103 kX9_211 fX9_takeBlock iX9_takeBlock ⟨by decide, by decide⟩ rfl rfl rfl (Nat.le_of_ble_eq_true rfl) (og e30) (mc1 := 0) (ms1 := 0) (mc2 := 7) (ms2 := 1596) (by decide) (by decide) (C_X9_takeBlock q27 l0 l1 l2 l6 q29 e30 (qR_mk _ _)) ?_
    refine r_aload_n (pc := 106) dX9_moveBlock_106 rfl ?_
    refine r_bipush (pc := 107) (30 : Int32) dX9_moveBlock_107 (by decide) ?_
    refine r_iload (pc := 109) dX9_moveBlock_109 rfl ?_
    refine r_iload (pc := 111) dX9_moveBlock_111 rfl ?_
    refine r_iload (pc := 113) dX9_moveBlock_113 rfl ?_
    replace hf := obind hf
    obtain ⟨q31, e32, hf⟩ := hf
    refine q_callV (pc := 115) (v := some (.int q31.1)) (S' := q31.2) mX9_putBlock 9 [.int (30 : Int32), .int l6, .int l4, .int l5] dX9_moveBlock_115 kX9_214 fX9_putBlock iX9_putBlock ⟨by decide, by decide⟩ rfl rfl rfl (Nat.le_of_ble_eq_true rfl) (og e32) (mc1 := 0) (ms1 := 0) (mc2 := 7) (ms2 := 1596) (by decide) (by decide) (C_X9_putBlock q29 l0 (30 : Int32) l6 l4 l5 q31 e32 (qR_mk _ _)) ?_
    change gW _ _ _ _ (.int q31.1 :: _) _ _ _ _ _
    refine r_if_ne (pc := 118) 131 dX9_moveBlock_118 (by decide) (fun hc => ?_) (fun hc => ?_)
    · rw [if_pos hc] at hf
      refine r_aload_n (pc := 131) dX9_moveBlock_131 rfl ?_
      replace hf := obind hf
      obtain ⟨q33, e34, hf⟩ := hf
      refine q_callV (pc := 132) (v := none) (S' := q33) mX9_adoptDraft 9 [] dX9_moveBlock_132 kX9_176 fX9_adoptDraft iX9_adoptDraft ⟨by decide, by decide⟩ rfl rfl rfl (Nat.le_of_ble_eq_true rfl) (og e34) (mc1 := 7) (ms1 := 1596) (mc2 := 0) (ms2 := 0) (by decide) (by decide) (C_X9_adoptDraft q31.2 l0 q33 e34 (qR_mk _ _)) ?_
      refine r_iload (pc := 135) dX9_moveBlock_135 rfl ?_
      refine r_ireturn (pc := 137) .int dX9_moveBlock_137 rfl rfl ?_
      cases hf
      exact hk
    · rw [if_neg hc] at hf
      refine r_throw (pc := 121) "java/lang/UnsupportedOperationException" 13 dX9_moveBlock_121 dX9_moveBlock_124 dX9_moveBlock_125 dX9_moveBlock_127 dX9_moveBlock_130 xX9_160_164 rfl ⟨by decide, Nat.le_of_ble_eq_true rfl⟩ (by decide) (by decide) ?_
      cases hf
      exact hk
  · simp only [Sum.elim_inl, Sum.elim_inr] at hf
    refine q_callVt (pc := 84) (E := q21.1) (S' := q21.2) mX9_needGap 9 [.int t1, .int (t2 - t3)] dX9_moveBlock_84 kX9_145 fX9_needGap iX9_needGap ⟨by decide, by decide⟩ rfl rfl rfl (Nat.le_of_ble_eq_true rfl) (og e22) (mc1 := 1) (ms1 := 6) (by decide) (by decide) (C_X9_needGap S t0 t1 (t2 - t3) (.inr q21) e22 (qX_mk _ _)) ?_
    cases hf
    exact hk
def F_X9_moveBlock (S : pS) (a0 : Nat) (a1 : Int32) (a2 : Int32) (a3 : Int32) (a4 : Int32) (a5 : Int32) : Option ((Int32 × pS) ⊕ (String × pS)) := (oF S a0 9).bind fun _ => (F_X9_needItem S a0 a1).bind fun q1 => Sum.elim (fun q1 => (F_X9_needItem q1 a0 a4).bind fun q3 => Sum.elim (fun q3 => (oGA q3 a0 9 0).bind fun x5 => (F_X8_childCount q3 x5 a1).bind fun q7 => (F_X9_needIndex q3 a0 a2 q7).bind fun q9 => Sum.elim (fun q9 => (oGA q9 a0 9 0).bind fun x11 => (F_X8_childCount q9 x11 a1).bind fun q13 => (F_X9_needIndex q9 a0 a3 q13).bind fun q15 => Sum.elim (fun q15 => if a2 ≤ a3 then ((oGA q15 a0 9 0).bind fun x17 => (F_X8_childCount q15 x17 a4).bind fun q19 => if ¬ a4 = a1 then (F_X9_moveBlock_83 q15 a0 a1 a2 a4 a5 ((a3 - a2) + (1 : Int32)) a0 a5 q19 (0 : Int32)) else (F_X9_moveBlock_83 q15 a0 a1 a2 a4 a5 ((a3 - a2) + (1 : Int32)) a0 a5 q19 ((a3 - a2) + (1 : Int32)))) else (some (.inr ("java/lang/IndexOutOfBoundsException", q15)))) (fun q15 => some (.inr q15)) q15) (fun q9 => some (.inr q9)) q9) (fun q3 => some (.inr q3)) q3) (fun q1 => some (.inr q1)) q1
set_option maxRecDepth 100000 in
set_option maxHeartbeats 4000000 in
theorem C_X9_moveBlock {X : pX} {Q : pO → Nat → pF → Prop} (S : pS) (a0 : Nat) (a1 : Int32) (a2 : Int32) (a3 : Int32) (a4 : Int32) (a5 : Int32) (r : (Int32 × pS) ⊕ (String × pS)) (hf : F_X9_moveBlock S a0 a1 a2 a3 a4 a5 = some r) (hk : Sum.elim (fun q => Q (.inl (some (.int q.1))) q.2.1 q.2.2) (fun q => ∀ n', q.2.1 ≤ n' → Q (.inr q.1) n' (gjunk q.2.2 q.2.1)) r) : gC X mX9_moveBlock [.ref a0, .int a1, .int a2, .int a3, .int a4, .int a5] S.1 S.2 Q 12 1626 := by
  refine gC_of (by decide) (Nat.le_of_ble_eq_true rfl) rfl ?_
  change gW _ _ _ [some (.ref a0), some (.int a1), some (.int a2), some (.int a3), some (.int a4), some (.int a5), none] _ _ _ _ _ _
  unfold F_X9_moveBlock at hf
  obtain ⟨_, _, hf⟩ := obind hf
  refine r_aload_n (pc := 0) dX9_moveBlock_0 rfl ?_
  refine r_iload_n (pc := 1) dX9_moveBlock_1 rfl ?_
  replace hf := obind hf
  obtain ⟨q1, e2, hf⟩ := hf
  rcases q1 with q1 | q1
  · simp only [Sum.elim_inl, Sum.elim_inr] at hf
    refine q_callV (pc := 2) (v := none) (S' := q1) mX9_needItem 9 [.int a1] dX9_moveBlock_2 kX9_137 fX9_needItem iX9_needItem ⟨by decide, by decide⟩ rfl rfl rfl (Nat.le_of_ble_eq_true rfl) (og e2) (mc1 := 1) (ms1 := 6) (mc2 := 11) (ms2 := 1620) (by decide) (by decide) (C_X9_needItem S a0 a1 (.inl q1) e2 (qR_mk _ _)) ?_
    refine r_aload_n (pc := 5) dX9_moveBlock_5 rfl ?_
    refine r_iload (pc := 6) dX9_moveBlock_6 rfl ?_
    replace hf := obind hf
    obtain ⟨q3, e4, hf⟩ := hf
    rcases q3 with q3 | q3
    · simp only [Sum.elim_inl, Sum.elim_inr] at hf
      refine q_callV (pc := 8) (v := none) (S' := q3) mX9_needItem 9 [.int a4] dX9_moveBlock_8 kX9_137 fX9_needItem iX9_needItem ⟨by decide, by decide⟩ rfl rfl rfl (Nat.le_of_ble_eq_true rfl) (og e4) (mc1 := 1) (ms1 := 6) (mc2 := 10) (ms2 := 1614) (by decide) (by decide) (C_X9_needItem q1 a0 a4 (.inl q3) e4 (qR_mk _ _)) ?_
      refine r_aload_n (pc := 11) dX9_moveBlock_11 rfl ?_
      refine r_iload_n (pc := 12) dX9_moveBlock_12 rfl ?_
      refine r_aload_n (pc := 13) dX9_moveBlock_13 rfl ?_
      replace hf := obind hf
      obtain ⟨x5, e6, hf⟩ := hf
      refine q_getA (pc := 14) dX9_moveBlock_14 gX9_12 e6 ?_
      refine r_iload_n (pc := 17) dX9_moveBlock_17 rfl ?_
      replace hf := obind hf
      obtain ⟨q7, e8, hf⟩ := hf
      refine q_callV (pc := 18) (v := some (.int q7)) (S' := q3) mX8_childCount 8 [.int a1] dX9_moveBlock_18 kX9_141 fX8_childCount iX8_childCount ⟨by decide, by decide⟩ rfl rfl rfl (Nat.le_of_ble_eq_true rfl) (og e8) (mc1 := 0) (ms1 := 0) (mc2 := 10) (ms2 := 1614) (by decide) (by decide) (C_X8_childCount q3 x5 a1 q7 e8 (qR_mk _ _)) ?_
      change gW _ _ _ _ (.int q7 :: _) _ _ _ _ _
      replace hf := obind hf
      obtain ⟨q9, e10, hf⟩ := hf
      rcases q9 with q9 | q9
      · simp only [Sum.elim_inl, Sum.elim_inr] at hf
        refine q_callV (pc := 21) (v := none) (S' := q9) mX9_needIndex 9 [.int a2, .int q7] dX9_moveBlock_21 kX9_189 fX9_needIndex iX9_needIndex ⟨by decide, by decide⟩ rfl rfl rfl (Nat.le_of_ble_eq_true rfl) (og e10) (mc1 := 1) (ms1 := 6) (mc2 := 9) (ms2 := 1608) (by decide) (by decide) (C_X9_needIndex q3 a0 a2 q7 (.inl q9) e10 (qR_mk _ _)) ?_
        refine r_aload_n (pc := 24) dX9_moveBlock_24 rfl ?_
        refine r_iload_n (pc := 25) dX9_moveBlock_25 rfl ?_
        refine r_aload_n (pc := 26) dX9_moveBlock_26 rfl ?_
        replace hf := obind hf
        obtain ⟨x11, e12, hf⟩ := hf
        refine q_getA (pc := 27) dX9_moveBlock_27 gX9_12 e12 ?_
        refine r_iload_n (pc := 30) dX9_moveBlock_30 rfl ?_
        replace hf := obind hf
        obtain ⟨q13, e14, hf⟩ := hf
        refine q_callV (pc := 31) (v := some (.int q13)) (S' := q9) mX8_childCount 8 [.int a1] dX9_moveBlock_31 kX9_141 fX8_childCount iX8_childCount ⟨by decide, by decide⟩ rfl rfl rfl (Nat.le_of_ble_eq_true rfl) (og e14) (mc1 := 0) (ms1 := 0) (mc2 := 9) (ms2 := 1608) (by decide) (by decide) (C_X8_childCount q9 x11 a1 q13 e14 (qR_mk _ _)) ?_
        change gW _ _ _ _ (.int q13 :: _) _ _ _ _ _
        replace hf := obind hf
        obtain ⟨q15, e16, hf⟩ := hf
        rcases q15 with q15 | q15
        · simp only [Sum.elim_inl, Sum.elim_inr] at hf
          refine q_callV (pc := 34) (v := none) (S' := q15) mX9_needIndex 9 [.int a3, .int q13] dX9_moveBlock_34 kX9_189 fX9_needIndex iX9_needIndex ⟨by decide, by decide⟩ rfl rfl rfl (Nat.le_of_ble_eq_true rfl) (og e16) (mc1 := 1) (ms1 := 6) (mc2 := 8) (ms2 := 1602) (by decide) (by decide) (C_X9_needIndex q9 a0 a3 q13 (.inl q15) e16 (qR_mk _ _)) ?_
          refine r_iload_n (pc := 37) dX9_moveBlock_37 rfl ?_
          refine r_iload_n (pc := 38) dX9_moveBlock_38 rfl ?_
          refine r_icmp_ge (pc := 39) 52 dX9_moveBlock_39 (by decide) (fun hc => ?_) (fun hc => ?_)
          · rw [if_pos hc] at hf
            refine r_iload_n (pc := 52) dX9_moveBlock_52 rfl ?_
            refine r_iload_n (pc := 53) dX9_moveBlock_53 rfl ?_
            refine r_isub (pc := 54) dX9_moveBlock_54 ?_
            refine r_iconst (pc := 55) (1 : Int32) dX9_moveBlock_55 (by decide) ?_
            refine r_iadd (pc := 56) dX9_moveBlock_56 ?_
            refine r_istore (pc := 57) dX9_moveBlock_57 (by decide) ?_
            change gW _ _ _ [some (.ref a0), some (.int a1), some (.int a2), some (.int a3), some (.int a4), some (.int a5), some (.int ((a3 - a2) + (1 : Int32)))] _ _ _ _ _ _
            refine r_aload_n (pc := 59) dX9_moveBlock_59 rfl ?_
            refine r_iload (pc := 60) dX9_moveBlock_60 rfl ?_
            refine r_aload_n (pc := 62) dX9_moveBlock_62 rfl ?_
            replace hf := obind hf
            obtain ⟨x17, e18, hf⟩ := hf
            refine q_getA (pc := 63) dX9_moveBlock_63 gX9_12 e18 ?_
            refine r_iload (pc := 66) dX9_moveBlock_66 rfl ?_
            replace hf := obind hf
            obtain ⟨q19, e20, hf⟩ := hf
            refine q_callV (pc := 68) (v := some (.int q19)) (S' := q15) mX8_childCount 8 [.int a4] dX9_moveBlock_68 kX9_141 fX8_childCount iX8_childCount ⟨by decide, by decide⟩ rfl rfl rfl (Nat.le_of_ble_eq_true rfl) (og e20) (mc1 := 0) (ms1 := 0) (mc2 := 8) (ms2 := 1602) (by decide) (by decide) (C_X8_childCount q15 x17 a4 q19 e20 (qR_mk _ _)) ?_
            change gW _ _ _ _ (.int q19 :: _) _ _ _ _ _
            refine r_iload (pc := 71) dX9_moveBlock_71 rfl ?_
            refine r_iload_n (pc := 73) dX9_moveBlock_73 rfl ?_
            refine r_icmp_ne (pc := 74) 82 dX9_moveBlock_74 (by decide) (fun hc => ?_) (fun hc => ?_)
            · rw [if_pos hc] at hf
              refine r_iconst (pc := 82) (0 : Int32) dX9_moveBlock_82 (by decide) ?_
              refine gW.mono (mc := 8) (ms := 1602) ?_ (fun _ _ _ q => q) (by decide) (by decide)
              exact gW.weak (by simp [gle]) (W_X9_moveBlock_83 q15 a0 a1 a2 a4 a5 ((a3 - a2) + (1 : Int32)) a0 a5 q19 (0 : Int32) r hf hk)
            · rw [if_neg hc] at hf
              refine r_iload (pc := 77) dX9_moveBlock_77 rfl ?_
              refine r_goto (pc := 79) 83 dX9_moveBlock_79 (by decide) ?_
              refine gW.mono (mc := 8) (ms := 1602) ?_ (fun _ _ _ q => q) (by decide) (by decide)
              exact gW.weak (by simp [gle]) (W_X9_moveBlock_83 q15 a0 a1 a2 a4 a5 ((a3 - a2) + (1 : Int32)) a0 a5 q19 ((a3 - a2) + (1 : Int32)) r hf hk)
          · rw [if_neg hc] at hf
            refine r_throw (pc := 42) "java/lang/IndexOutOfBoundsException" 16 dX9_moveBlock_42 dX9_moveBlock_45 dX9_moveBlock_46 dX9_moveBlock_48 dX9_moveBlock_51 xX9_206_210 rfl ⟨by decide, Nat.le_of_ble_eq_true rfl⟩ (by decide) (by decide) ?_
            cases hf
            exact hk
        · simp only [Sum.elim_inl, Sum.elim_inr] at hf
          refine q_callVt (pc := 34) (E := q15.1) (S' := q15.2) mX9_needIndex 9 [.int a3, .int q13] dX9_moveBlock_34 kX9_189 fX9_needIndex iX9_needIndex ⟨by decide, by decide⟩ rfl rfl rfl (Nat.le_of_ble_eq_true rfl) (og e16) (mc1 := 1) (ms1 := 6) (by decide) (by decide) (C_X9_needIndex q9 a0 a3 q13 (.inr q15) e16 (qX_mk _ _)) ?_
          cases hf
          exact hk
      · simp only [Sum.elim_inl, Sum.elim_inr] at hf
        refine q_callVt (pc := 21) (E := q9.1) (S' := q9.2) mX9_needIndex 9 [.int a2, .int q7] dX9_moveBlock_21 kX9_189 fX9_needIndex iX9_needIndex ⟨by decide, by decide⟩ rfl rfl rfl (Nat.le_of_ble_eq_true rfl) (og e10) (mc1 := 1) (ms1 := 6) (by decide) (by decide) (C_X9_needIndex q3 a0 a2 q7 (.inr q9) e10 (qX_mk _ _)) ?_
        cases hf
        exact hk
    · simp only [Sum.elim_inl, Sum.elim_inr] at hf
      refine q_callVt (pc := 8) (E := q3.1) (S' := q3.2) mX9_needItem 9 [.int a4] dX9_moveBlock_8 kX9_137 fX9_needItem iX9_needItem ⟨by decide, by decide⟩ rfl rfl rfl (Nat.le_of_ble_eq_true rfl) (og e4) (mc1 := 1) (ms1 := 6) (by decide) (by decide) (C_X9_needItem q1 a0 a4 (.inr q3) e4 (qX_mk _ _)) ?_
      cases hf
      exact hk
  · simp only [Sum.elim_inl, Sum.elim_inr] at hf
    refine q_callVt (pc := 2) (E := q1.1) (S' := q1.2) mX9_needItem 9 [.int a1] dX9_moveBlock_2 kX9_137 fX9_needItem iX9_needItem ⟨by decide, by decide⟩ rfl rfl rfl (Nat.le_of_ble_eq_true rfl) (og e2) (mc1 := 1) (ms1 := 6) (by decide) (by decide) (C_X9_needItem S a0 a1 (.inr q1) e2 (qX_mk _ _)) ?_
    cases hf
    exact hk
def F_X9_countLines_98 (S : pS) (l0 : Nat) : Option (Int32 × pS) := (oGA S l0 9 9).bind fun x31 => (F_X5_size S x31).bind fun q33 => some (q33, S)
set_option maxRecDepth 100000 in
set_option maxHeartbeats 4000000 in
theorem W_X9_countLines_98 {X : pX} {Q : pO → Nat → pF → Prop} (S : pS) (l0 : Nat) (r : Int32 × pS) (hf : F_X9_countLines_98 S l0 = some r) (hk : Q (.inl (some (.int r.1))) r.2.1 r.2.2) : gW X mX9_countLines 98 [some (.ref l0), none, none] [] S.1 S.2 Q 0 0 := by
  unfold F_X9_countLines_98 at hf
  refine r_aload_n (pc := 98) dX9_countLines_98 rfl ?_
  replace hf := obind hf
  obtain ⟨x31, e32, hf⟩ := hf
  refine q_getA (pc := 99) dX9_countLines_99 gX9_59 e32 ?_
  replace hf := obind hf
  obtain ⟨q33, e34, hf⟩ := hf
  refine q_callV (pc := 102) (v := some (.int q33)) (S' := S) mX5_size 5 [] dX9_countLines_102 kX9_463 fX5_size iX5_size ⟨by decide, by decide⟩ rfl rfl rfl (Nat.le_of_ble_eq_true rfl) (og e34) (mc1 := 0) (ms1 := 0) (mc2 := 0) (ms2 := 0) (by decide) (by decide) (C_X5_size S x31 q33 e34 (qR_mk _ _)) ?_
  change gW _ _ _ _ (.int q33 :: _) _ _ _ _ _
  refine r_ireturn (pc := 105) .int dX9_countLines_105 rfl rfl ?_
  cases hf
  exact hk
def F_X9_countLines (S : pS) (a0 : Nat) : Option (Int32 × pS) := (oF S a0 9).bind fun _ => (oGA S a0 9 7).bind fun x1 => (F_X1_size S x1).bind fun q3 => if ¬ q3 = 0 then ((oGA S a0 9 3).bind fun x5 => (oGA S a0 9 7).bind fun x7 => (oGA S a0 9 0).bind fun x9 => (oGA S a0 9 3).bind fun x11 => (F_X1_fittingItems S x7 x9 x11).bind fun q13 => (F_X6_itemsAtOrAbove S x5 q13).bind fun q15 => (oGA S a0 9 9).bind fun x17 => (oGA S a0 9 0).bind fun x19 => (oGA S a0 9 6).bind fun x21 => (F_X4_top S x21).bind fun q23 => (oGA S a0 9 0).bind fun x25 => (F_X8_presentItems S x25).bind fun q27 => (F_X5_find S x17 x19 q23 q15 q27).bind fun q29 => F_X9_countLines_98 q29 a0) else ((oGA S a0 9 9).bind fun x35 => (oGA S a0 9 0).bind fun x37 => (oGA S a0 9 6).bind fun x39 => (F_X4_top S x39).bind fun q41 => (oGA S a0 9 0).bind fun x43 => (F_X8_presentItems S x43).bind fun q45 => (oGA S a0 9 0).bind fun x47 => (F_X8_foldedItems S x47).bind fun q49 => (F_X5_find S x35 x37 q41 q45 (q49 ^^^ (-1 : Int64))).bind fun q51 => F_X9_countLines_98 q51 a0)
set_option maxRecDepth 100000 in
set_option maxHeartbeats 4000000 in
theorem C_X9_countLines {X : pX} {Q : pO → Nat → pF → Prop} (S : pS) (a0 : Nat) (r : Int32 × pS) (hf : F_X9_countLines S a0 = some r) (hk : Q (.inl (some (.int r.1))) r.2.1 r.2.2) : gC X mX9_countLines [.ref a0] S.1 S.2 Q 0 0 := by
  refine gC_of (by decide) (Nat.le_of_ble_eq_true rfl) rfl ?_
  change gW _ _ _ [some (.ref a0), none, none] _ _ _ _ _ _
  unfold F_X9_countLines at hf
  obtain ⟨_, _, hf⟩ := obind hf
  refine r_aload_n (pc := 0) dX9_countLines_0 rfl ?_
  replace hf := obind hf
  obtain ⟨x1, e2, hf⟩ := hf
  refine q_getA (pc := 1) dX9_countLines_1 gX9_49 e2 ?_
  replace hf := obind hf
  obtain ⟨q3, e4, hf⟩ := hf
  refine q_callV (pc := 4) (v := some (.int q3)) (S' := S) mX1_size 1 [] dX9_countLines_4 kX9_328 fX1_size iX1_size ⟨by decide, by decide⟩ rfl rfl rfl (Nat.le_of_ble_eq_true rfl) (og e4) (mc1 := 0) (ms1 := 0) (mc2 := 0) (ms2 := 0) (by decide) (by decide) (C_X1_size S x1 q3 e4 (qR_mk _ _)) ?_
  change gW _ _ _ _ (.int q3 :: _) _ _ _ _ _
  refine r_if_ne (pc := 7) 49 dX9_countLines_7 (by decide) (fun hc => ?_) (fun hc => ?_)
  · rw [if_pos hc] at hf
    refine r_aload_n (pc := 49) dX9_countLines_49 rfl ?_
    replace hf := obind hf
    obtain ⟨x5, e6, hf⟩ := hf
    refine q_getA (pc := 50) dX9_countLines_50 gX9_25 e6 ?_
    refine r_aload_n (pc := 53) dX9_countLines_53 rfl ?_
    replace hf := obind hf
    obtain ⟨x7, e8, hf⟩ := hf
    refine q_getA (pc := 54) dX9_countLines_54 gX9_49 e8 ?_
    refine r_aload_n (pc := 57) dX9_countLines_57 rfl ?_
    replace hf := obind hf
    obtain ⟨x9, e10, hf⟩ := hf
    refine q_getA (pc := 58) dX9_countLines_58 gX9_12 e10 ?_
    refine r_aload_n (pc := 61) dX9_countLines_61 rfl ?_
    replace hf := obind hf
    obtain ⟨x11, e12, hf⟩ := hf
    refine q_getA (pc := 62) dX9_countLines_62 gX9_25 e12 ?_
    replace hf := obind hf
    obtain ⟨q13, e14, hf⟩ := hf
    refine q_callV (pc := 65) (v := some (.long q13)) (S' := S) mX1_fittingItems 1 [.ref x9, .ref x11] dX9_countLines_65 kX9_329 fX1_fittingItems iX1_fittingItems ⟨by decide, by decide⟩ rfl rfl rfl (Nat.le_of_ble_eq_true rfl) (og e14) (mc1 := 0) (ms1 := 0) (mc2 := 0) (ms2 := 0) (by decide) (by decide) (C_X1_fittingItems S x7 x9 x11 q13 e14 (qR_mk _ _)) ?_
    change gW _ _ _ _ (.long q13 :: _) _ _ _ _ _
    replace hf := obind hf
    obtain ⟨q15, e16, hf⟩ := hf
    refine q_callV (pc := 68) (v := some (.long q15)) (S' := S) mX6_itemsAtOrAbove 6 [.long q13] dX9_countLines_68 kX9_459 fX6_itemsAtOrAbove iX6_itemsAtOrAbove ⟨by decide, by decide⟩ rfl rfl rfl (Nat.le_of_ble_eq_true rfl) (og e16) (mc1 := 0) (ms1 := 0) (mc2 := 0) (ms2 := 0) (by decide) (by decide) (C_X6_itemsAtOrAbove S x5 q13 q15 e16 (qR_mk _ _)) ?_
    change gW _ _ _ _ (.long q15 :: _) _ _ _ _ _
    refine r_lstore_n (pc := 71) dX9_countLines_71 (by decide) ?_
    change gW _ _ _ [some (.ref a0), some (.long q15), none] _ _ _ _ _ _
    refine r_aload_n (pc := 72) dX9_countLines_72 rfl ?_
    replace hf := obind hf
    obtain ⟨x17, e18, hf⟩ := hf
    refine q_getA (pc := 73) dX9_countLines_73 gX9_59 e18 ?_
    refine r_aload_n (pc := 76) dX9_countLines_76 rfl ?_
    replace hf := obind hf
    obtain ⟨x19, e20, hf⟩ := hf
    refine q_getA (pc := 77) dX9_countLines_77 gX9_12 e20 ?_
    refine r_aload_n (pc := 80) dX9_countLines_80 rfl ?_
    replace hf := obind hf
    obtain ⟨x21, e22, hf⟩ := hf
    refine q_getA (pc := 81) dX9_countLines_81 gX9_42 e22 ?_
    replace hf := obind hf
    obtain ⟨q23, e24, hf⟩ := hf
    refine q_callV (pc := 84) (v := some (.int q23)) (S' := S) mX4_top 4 [] dX9_countLines_84 kX9_324 fX4_top iX4_top ⟨by decide, by decide⟩ rfl rfl rfl (Nat.le_of_ble_eq_true rfl) (og e24) (mc1 := 0) (ms1 := 0) (mc2 := 0) (ms2 := 0) (by decide) (by decide) (C_X4_top S x21 q23 e24 (qR_mk _ _)) ?_
    change gW _ _ _ _ (.int q23 :: _) _ _ _ _ _
    refine r_lload_n (pc := 87) dX9_countLines_87 rfl ?_
    refine r_aload_n (pc := 88) dX9_countLines_88 rfl ?_
    replace hf := obind hf
    obtain ⟨x25, e26, hf⟩ := hf
    refine q_getA (pc := 89) dX9_countLines_89 gX9_12 e26 ?_
    replace hf := obind hf
    obtain ⟨q27, e28, hf⟩ := hf
    refine q_callV (pc := 92) (v := some (.long q27)) (S' := S) mX8_presentItems 8 [] dX9_countLines_92 kX9_379 fX8_presentItems iX8_presentItems ⟨by decide, by decide⟩ rfl rfl rfl (Nat.le_of_ble_eq_true rfl) (og e28) (mc1 := 0) (ms1 := 0) (mc2 := 0) (ms2 := 0) (by decide) (by decide) (C_X8_presentItems S x25 q27 e28 (qR_mk _ _)) ?_
    change gW _ _ _ _ (.long q27 :: _) _ _ _ _ _
    replace hf := obind hf
    obtain ⟨q29, e30, hf⟩ := hf
    refine q_callV (pc := 95) (v := none) (S' := q29) mX5_find 5 [.ref x19, .int q23, .long q15, .long q27] dX9_countLines_95 kX9_455 fX5_find iX5_find ⟨by decide, by decide⟩ rfl rfl rfl (Nat.le_of_ble_eq_true rfl) (og e30) (mc1 := 0) (ms1 := 0) (mc2 := 0) (ms2 := 0) (by decide) (by decide) (C_X5_find S x17 x19 q23 q15 q27 q29 e30 (qR_mk _ _)) ?_
    refine gW.mono (mc := 0) (ms := 0) ?_ (fun _ _ _ q => q) (by decide) (by decide)
    exact gW.weak (by simp [gle]) (W_X9_countLines_98 q29 a0 r hf hk)
  · rw [if_neg hc] at hf
    refine r_aload_n (pc := 10) dX9_countLines_10 rfl ?_
    replace hf := obind hf
    obtain ⟨x35, e36, hf⟩ := hf
    refine q_getA (pc := 11) dX9_countLines_11 gX9_59 e36 ?_
    refine r_aload_n (pc := 14) dX9_countLines_14 rfl ?_
    replace hf := obind hf
    obtain ⟨x37, e38, hf⟩ := hf
    refine q_getA (pc := 15) dX9_countLines_15 gX9_12 e38 ?_
    refine r_aload_n (pc := 18) dX9_countLines_18 rfl ?_
    replace hf := obind hf
    obtain ⟨x39, e40, hf⟩ := hf
    refine q_getA (pc := 19) dX9_countLines_19 gX9_42 e40 ?_
    replace hf := obind hf
    obtain ⟨q41, e42, hf⟩ := hf
    refine q_callV (pc := 22) (v := some (.int q41)) (S' := S) mX4_top 4 [] dX9_countLines_22 kX9_324 fX4_top iX4_top ⟨by decide, by decide⟩ rfl rfl rfl (Nat.le_of_ble_eq_true rfl) (og e42) (mc1 := 0) (ms1 := 0) (mc2 := 0) (ms2 := 0) (by decide) (by decide) (C_X4_top S x39 q41 e42 (qR_mk _ _)) ?_
    change gW _ _ _ _ (.int q41 :: _) _ _ _ _ _
    refine r_aload_n (pc := 25) dX9_countLines_25 rfl ?_
    replace hf := obind hf
    obtain ⟨x43, e44, hf⟩ := hf
    refine q_getA (pc := 26) dX9_countLines_26 gX9_12 e44 ?_
    replace hf := obind hf
    obtain ⟨q45, e46, hf⟩ := hf
    refine q_callV (pc := 29) (v := some (.long q45)) (S' := S) mX8_presentItems 8 [] dX9_countLines_29 kX9_379 fX8_presentItems iX8_presentItems ⟨by decide, by decide⟩ rfl rfl rfl (Nat.le_of_ble_eq_true rfl) (og e46) (mc1 := 0) (ms1 := 0) (mc2 := 0) (ms2 := 0) (by decide) (by decide) (C_X8_presentItems S x43 q45 e46 (qR_mk _ _)) ?_
    change gW _ _ _ _ (.long q45 :: _) _ _ _ _ _
    refine r_aload_n (pc := 32) dX9_countLines_32 rfl ?_
    replace hf := obind hf
    obtain ⟨x47, e48, hf⟩ := hf
    refine q_getA (pc := 33) dX9_countLines_33 gX9_12 e48 ?_
    replace hf := obind hf
    obtain ⟨q49, e50, hf⟩ := hf
    refine q_callV (pc := 36) (v := some (.long q49)) (S' := S) mX8_foldedItems 8 [] dX9_countLines_36 kX9_268 fX8_foldedItems iX8_foldedItems ⟨by decide, by decide⟩ rfl rfl rfl (Nat.le_of_ble_eq_true rfl) (og e50) (mc1 := 0) (ms1 := 0) (mc2 := 0) (ms2 := 0) (by decide) (by decide) (C_X8_foldedItems S x47 q49 e50 (qR_mk _ _)) ?_
    change gW _ _ _ _ (.long q49 :: _) _ _ _ _ _
    refine r_ldc2 (pc := 39) dX9_countLines_39 kX9_453 ?_
    refine r_lxor (pc := 42) dX9_countLines_42 ?_
    replace hf := obind hf
    obtain ⟨q51, e52, hf⟩ := hf
    refine q_callV (pc := 43) (v := none) (S' := q51) mX5_find 5 [.ref x37, .int q41, .long q45, .long (q49 ^^^ (-1 : Int64))] dX9_countLines_43 kX9_455 fX5_find iX5_find ⟨by decide, by decide⟩ rfl rfl rfl (Nat.le_of_ble_eq_true rfl) (og e52) (mc1 := 0) (ms1 := 0) (mc2 := 0) (ms2 := 0) (by decide) (by decide) (C_X5_find S x35 x37 q41 q45 (q49 ^^^ (-1 : Int64)) q51 e52 (qR_mk _ _)) ?_
    refine r_goto (pc := 46) 98 dX9_countLines_46 (by decide) ?_
    refine gW.mono (mc := 0) (ms := 0) ?_ (fun _ _ _ q => q) (by decide) (by decide)
    exact gW.weak (by simp [gle]) (W_X9_countLines_98 q51 a0 r hf hk)
def F_X9_needLine_9 (S : pS) : Option ((pS) ⊕ (String × pS)) := some (.inr ("java/util/NoSuchElementException", S))
set_option maxRecDepth 100000 in
set_option maxHeartbeats 4000000 in
theorem W_X9_needLine_9 {X : pX} {Q : pO → Nat → pF → Prop} (S : pS) (r : (pS) ⊕ (String × pS)) (hf : F_X9_needLine_9 S = some r) (hk : Sum.elim (fun q => Q (.inl none) q.1 q.2) (fun q => ∀ n', q.2.1 ≤ n' → Q (.inr q.1) n' (gjunk q.2.2 q.2.1)) r) : gW X mX9_needLine 9 [none, none, none] [] S.1 S.2 Q 1 6 := by
  unfold F_X9_needLine_9 at hf
  refine r_throwNW (pc := 9) "java/util/NoSuchElementException" 17 dX9_needLine_9 dX9_needLine_12 dX9_needLine_13 dX9_needLine_16 dX9_needLine_19 xX9_404_408 rfl ⟨by decide, Nat.le_of_ble_eq_true rfl⟩ (by decide) (by decide) ?_
  cases hf
  exact hk
def F_X9_needLine (S : pS) (a0 : Nat) (a1 : Int32) (a2 : Int32) : Option ((pS) ⊕ (String × pS)) := (oF S a0 9).bind fun _ => if a1 < 0 then (F_X9_needLine_9 S) else (if a1 < a2 then (some (.inl S)) else (F_X9_needLine_9 S))
set_option maxRecDepth 100000 in
set_option maxHeartbeats 4000000 in
theorem C_X9_needLine {X : pX} {Q : pO → Nat → pF → Prop} (S : pS) (a0 : Nat) (a1 : Int32) (a2 : Int32) (r : (pS) ⊕ (String × pS)) (hf : F_X9_needLine S a0 a1 a2 = some r) (hk : Sum.elim (fun q => Q (.inl none) q.1 q.2) (fun q => ∀ n', q.2.1 ≤ n' → Q (.inr q.1) n' (gjunk q.2.2 q.2.1)) r) : gC X mX9_needLine [.ref a0, .int a1, .int a2] S.1 S.2 Q 1 6 := by
  refine gC_of (by decide) (Nat.le_of_ble_eq_true rfl) rfl ?_
  change gW _ _ _ [some (.ref a0), some (.int a1), some (.int a2)] _ _ _ _ _ _
  unfold F_X9_needLine at hf
  obtain ⟨_, _, hf⟩ := obind hf
  refine r_iload_n (pc := 0) dX9_needLine_0 rfl ?_
  refine r_if_lt (pc := 1) 9 dX9_needLine_1 (by decide) (fun hc => ?_) (fun hc => ?_)
  · rw [if_pos hc] at hf
    refine gW.mono (mc := 1) (ms := 6) ?_ (fun _ _ _ q => q) (by decide) (by decide)
    exact gW.weak (by simp [gle]) (W_X9_needLine_9 S r hf hk)
  · rw [if_neg hc] at hf
    refine r_iload_n (pc := 4) dX9_needLine_4 rfl ?_
    refine r_iload_n (pc := 5) dX9_needLine_5 rfl ?_
    refine r_icmp_lt (pc := 6) 20 dX9_needLine_6 (by decide) (fun hc => ?_) (fun hc => ?_)
    · rw [if_pos hc] at hf
      refine r_return (pc := 20) dX9_needLine_20 rfl ?_
      cases hf
      exact hk
    · rw [if_neg hc] at hf
      refine gW.mono (mc := 1) (ms := 6) ?_ (fun _ _ _ q => q) (by decide) (by decide)
      exact gW.weak (by simp [gle]) (W_X9_needLine_9 S r hf hk)
def F_X9_indent (S : pS) (a0 : Nat) (a1 : Int32) : Option ((Int32 × pS) ⊕ (String × pS)) := (oF S a0 9).bind fun _ => (F_X9_countLines S a0).bind fun q1 => (F_X9_needLine q1.2 a0 a1 q1.1).bind fun q3 => Sum.elim (fun q3 => (oGA q3 a0 9 9).bind fun x5 => (F_X5_itemAbove q3 x5 a1).bind fun q7 => (oGA q3 a0 9 9).bind fun x9 => (F_X5_indexIn q3 x9 a1).bind fun q11 => if ¬ q11 = 0 then ((oGA q3 a0 9 0).bind fun x13 => (F_X8_childAt q3 x13 q7 (q11 - (1 : Int32))).bind fun q15 => (oGA q3 a0 9 1).bind fun x17 => (oGA q3 a0 9 0).bind fun x19 => (F_X8_copyFrom q3 x17 x19).bind fun q21 => (F_X9_takeBlock q21 a0 q7 q11 (1 : Int32)).bind fun q23 => (oGA q23 a0 9 1).bind fun x25 => (F_X8_childCount q23 x25 q15).bind fun q27 => (F_X9_putBlock q23 a0 (40 : Int32) (1 : Int32) q15 q27).bind fun q29 => if ¬ q29.1 = 0 then ((F_X9_adoptDraft q29.2 a0).bind fun q31 => some (.inl (q15, q31))) else (some (.inr ("java/lang/UnsupportedOperationException", q29.2)))) else (some (.inr ("java/lang/IllegalStateException", q3)))) (fun q3 => some (.inr q3)) q3
set_option maxRecDepth 100000 in
set_option maxHeartbeats 4000000 in
theorem C_X9_indent {X : pX} {Q : pO → Nat → pF → Prop} (S : pS) (a0 : Nat) (a1 : Int32) (r : (Int32 × pS) ⊕ (String × pS)) (hf : F_X9_indent S a0 a1 = some r) (hk : Sum.elim (fun q => Q (.inl (some (.int q.1))) q.2.1 q.2.2) (fun q => ∀ n', q.2.1 ≤ n' → Q (.inr q.1) n' (gjunk q.2.2 q.2.1)) r) : gC X mX9_indent [.ref a0, .int a1] S.1 S.2 Q 8 1602 := by
  refine gC_of (by decide) (Nat.le_of_ble_eq_true rfl) rfl ?_
  change gW _ _ _ [some (.ref a0), some (.int a1), none, none, none] _ _ _ _ _ _
  unfold F_X9_indent at hf
  obtain ⟨_, _, hf⟩ := obind hf
  refine r_aload_n (pc := 0) dX9_indent_0 rfl ?_
  refine r_iload_n (pc := 1) dX9_indent_1 rfl ?_
  refine r_aload_n (pc := 2) dX9_indent_2 rfl ?_
  replace hf := obind hf
  obtain ⟨q1, e2, hf⟩ := hf
  refine q_callV (pc := 3) (v := some (.int q1.1)) (S' := q1.2) mX9_countLines 9 [] dX9_indent_3 kX9_218 fX9_countLines iX9_countLines ⟨by decide, by decide⟩ rfl rfl rfl (Nat.le_of_ble_eq_true rfl) (og e2) (mc1 := 0) (ms1 := 0) (mc2 := 8) (ms2 := 1602) (by decide) (by decide) (C_X9_countLines S a0 q1 e2 (qR_mk _ _)) ?_
  change gW _ _ _ _ (.int q1.1 :: _) _ _ _ _ _
  replace hf := obind hf
  obtain ⟨q3, e4, hf⟩ := hf
  rcases q3 with q3 | q3
  · simp only [Sum.elim_inl, Sum.elim_inr] at hf
    refine q_callV (pc := 6) (v := none) (S' := q3) mX9_needLine 9 [.int a1, .int q1.1] dX9_indent_6 kX9_221 fX9_needLine iX9_needLine ⟨by decide, by decide⟩ rfl rfl rfl (Nat.le_of_ble_eq_true rfl) (og e4) (mc1 := 1) (ms1 := 6) (mc2 := 7) (ms2 := 1596) (by decide) (by decide) (C_X9_needLine q1.2 a0 a1 q1.1 (.inl q3) e4 (qR_mk _ _)) ?_
    refine r_aload_n (pc := 9) dX9_indent_9 rfl ?_
    replace hf := obind hf
    obtain ⟨x5, e6, hf⟩ := hf
    refine q_getA (pc := 10) dX9_indent_10 gX9_59 e6 ?_
    refine r_iload_n (pc := 13) dX9_indent_13 rfl ?_
    replace hf := obind hf
    obtain ⟨q7, e8, hf⟩ := hf
    refine q_callV (pc := 14) (v := some (.int q7)) (S' := q3) mX5_itemAbove 5 [.int a1] dX9_indent_14 kX9_224 fX5_itemAbove iX5_itemAbove ⟨by decide, by decide⟩ rfl rfl rfl (Nat.le_of_ble_eq_true rfl) (og e8) (mc1 := 0) (ms1 := 0) (mc2 := 7) (ms2 := 1596) (by decide) (by decide) (C_X5_itemAbove q3 x5 a1 q7 e8 (qR_mk _ _)) ?_
    change gW _ _ _ _ (.int q7 :: _) _ _ _ _ _
    refine r_istore_n (pc := 17) dX9_indent_17 (by decide) ?_
    change gW _ _ _ [some (.ref a0), some (.int a1), some (.int q7), none, none] _ _ _ _ _ _
    refine r_aload_n (pc := 18) dX9_indent_18 rfl ?_
    replace hf := obind hf
    obtain ⟨x9, e10, hf⟩ := hf
    refine q_getA (pc := 19) dX9_indent_19 gX9_59 e10 ?_
    refine r_iload_n (pc := 22) dX9_indent_22 rfl ?_
    replace hf := obind hf
    obtain ⟨q11, e12, hf⟩ := hf
    refine q_callV (pc := 23) (v := some (.int q11)) (S' := q3) mX5_indexIn 5 [.int a1] dX9_indent_23 kX9_227 fX5_indexIn iX5_indexIn ⟨by decide, by decide⟩ rfl rfl rfl (Nat.le_of_ble_eq_true rfl) (og e12) (mc1 := 0) (ms1 := 0) (mc2 := 7) (ms2 := 1596) (by decide) (by decide) (C_X5_indexIn q3 x9 a1 q11 e12 (qR_mk _ _)) ?_
    change gW _ _ _ _ (.int q11 :: _) _ _ _ _ _
    refine r_istore_n (pc := 26) dX9_indent_26 (by decide) ?_
    change gW _ _ _ [some (.ref a0), some (.int a1), some (.int q7), some (.int q11), none] _ _ _ _ _ _
    refine r_iload_n (pc := 27) dX9_indent_27 rfl ?_
    refine r_if_ne (pc := 28) 41 dX9_indent_28 (by decide) (fun hc => ?_) (fun hc => ?_)
    · rw [if_pos hc] at hf
      refine r_aload_n (pc := 41) dX9_indent_41 rfl ?_
      replace hf := obind hf
      obtain ⟨x13, e14, hf⟩ := hf
      refine q_getA (pc := 42) dX9_indent_42 gX9_12 e14 ?_
      refine r_iload_n (pc := 45) dX9_indent_45 rfl ?_
      refine r_iload_n (pc := 46) dX9_indent_46 rfl ?_
      refine r_iconst (pc := 47) (1 : Int32) dX9_indent_47 (by decide) ?_
      refine r_isub (pc := 48) dX9_indent_48 ?_
      replace hf := obind hf
      obtain ⟨q15, e16, hf⟩ := hf
      refine q_callV (pc := 49) (v := some (.int q15)) (S' := q3) mX8_childAt 8 [.int q7, .int (q11 - (1 : Int32))] dX9_indent_49 kX9_232 fX8_childAt iX8_childAt ⟨by decide, by decide⟩ rfl rfl rfl (Nat.le_of_ble_eq_true rfl) (og e16) (mc1 := 0) (ms1 := 0) (mc2 := 7) (ms2 := 1596) (by decide) (by decide) (C_X8_childAt q3 x13 q7 (q11 - (1 : Int32)) q15 e16 (qR_mk _ _)) ?_
      change gW _ _ _ _ (.int q15 :: _) _ _ _ _ _
      refine r_istore (pc := 52) dX9_indent_52 (by decide) ?_
      change gW _ _ _ [some (.ref a0), some (.int a1), some (.int q7), some (.int q11), some (.int q15)] _ _ _ _ _ _
      refine r_aload_n (pc := 54) dX9_indent_54 rfl ?_
      replace hf := obind hf
      obtain ⟨x17, e18, hf⟩ := hf
      refine q_getA (pc := 55) dX9_indent_55 gX9_16 e18 ?_
      refine r_aload_n (pc := 58) dX9_indent_58 rfl ?_
      replace hf := obind hf
      obtain ⟨x19, e20, hf⟩ := hf
      refine q_getA (pc := 59) dX9_indent_59 gX9_12 e20 ?_
      replace hf := obind hf
      obtain ⟨q21, e22, hf⟩ := hf
      refine q_callV (pc := 62) (v := none) (S' := q21) mX8_copyFrom 8 [.ref x19] dX9_indent_62 kX9_165 fX8_copyFrom iX8_copyFrom ⟨by decide, by decide⟩ rfl rfl rfl (Nat.le_of_ble_eq_true rfl) (og e22) (mc1 := 0) (ms1 := 0) (mc2 := 7) (ms2 := 1596) (by decide) (by decide) (C_X8_copyFrom q3 x17 x19 q21 e22 (qR_mk _ _)) ?_
      refine r_aload_n (pc := 65) dX9_indent_65 rfl ?_
      refine r_iload_n (pc := 66) dX9_indent_66 rfl ?_
      refine r_iload_n (pc := 67) dX9_indent_67 rfl ?_
      refine r_iconst (pc := 68) (1 : Int32) dX9_indent_68 (by decide) ?_
      replace hf := obind hf
      obtain ⟨q23, e24, hf⟩ := hf
      refine q_callV (pc := 69) (v := none) (S' := q23) mX9_takeBlock 9 [.int q7, .int q11, .int (1 : Int32)] dX9_indent_69 kX9_211 fX9_takeBlock iX9_takeBlock ⟨by decide, by decide⟩ rfl rfl rfl (Nat.le_of_ble_eq_true rfl) (og e24) (mc1 := 0) (ms1 := 0) (mc2 := 7) (ms2 := 1596) (by decide) (by decide) (C_X9_takeBlock q21 a0 q7 q11 (1 : Int32) q23 e24 (qR_mk _ _)) ?_
      refine r_aload_n (pc := 72) dX9_indent_72 rfl ?_
      refine r_bipush (pc := 73) (40 : Int32) dX9_indent_73 (by decide) ?_
      refine r_iconst (pc := 75) (1 : Int32) dX9_indent_75 (by decide) ?_
      refine r_iload (pc := 76) dX9_indent_76 rfl ?_
      refine r_aload_n (pc := 78) dX9_indent_78 rfl ?_
      replace hf := obind hf
      obtain ⟨x25, e26, hf⟩ := hf
      refine q_getA (pc := 79) dX9_indent_79 gX9_16 e26 ?_
      refine r_iload (pc := 82) dX9_indent_82 rfl ?_
      replace hf := obind hf
      obtain ⟨q27, e28, hf⟩ := hf
      refine q_callV (pc := 84) (v := some (.int q27)) (S' := q23) mX8_childCount 8 [.int q15] dX9_indent_84 kX9_141 fX8_childCount iX8_childCount ⟨by decide, by decide⟩ rfl rfl rfl (Nat.le_of_ble_eq_true rfl) (og e28) (mc1 := 0) (ms1 := 0) (mc2 := 7) (ms2 := 1596) (by decide) (by decide) (C_X8_childCount q23 x25 q15 q27 e28 (qR_mk _ _)) ?_
      change gW _ _ _ _ (.int q27 :: _) _ _ _ _ _
      replace hf := obind hf
      obtain ⟨q29, e30, hf⟩ := hf
      refine q_callV (pc := 87) (v := some (.int q29.1)) (S' := q29.2) mX9_putBlock 9 [.int (40 : Int32), .int (1 : Int32), .int q15, .int q27] dX9_indent_87 kX9_214 fX9_putBlock iX9_putBlock ⟨by decide, by decide⟩ rfl rfl rfl (Nat.le_of_ble_eq_true rfl) (og e30) (mc1 := 0) (ms1 := 0) (mc2 := 7) (ms2 := 1596) (by decide) (by decide) (C_X9_putBlock q23 a0 (40 : Int32) (1 : Int32) q15 q27 q29 e30 (qR_mk _ _)) ?_
      change gW _ _ _ _ (.int q29.1 :: _) _ _ _ _ _
      refine r_if_ne (pc := 90) 103 dX9_indent_90 (by decide) (fun hc => ?_) (fun hc => ?_)
      · rw [if_pos hc] at hf
        refine r_aload_n (pc := 103) dX9_indent_103 rfl ?_
        replace hf := obind hf
        obtain ⟨q31, e32, hf⟩ := hf
        refine q_callV (pc := 104) (v := none) (S' := q31) mX9_adoptDraft 9 [] dX9_indent_104 kX9_176 fX9_adoptDraft iX9_adoptDraft ⟨by decide, by decide⟩ rfl rfl rfl (Nat.le_of_ble_eq_true rfl) (og e32) (mc1 := 7) (ms1 := 1596) (mc2 := 0) (ms2 := 0) (by decide) (by decide) (C_X9_adoptDraft q29.2 a0 q31 e32 (qR_mk _ _)) ?_
        refine r_iload (pc := 107) dX9_indent_107 rfl ?_
        refine r_ireturn (pc := 109) .int dX9_indent_109 rfl rfl ?_
        cases hf
        exact hk
      · rw [if_neg hc] at hf
        refine r_throw (pc := 93) "java/lang/UnsupportedOperationException" 13 dX9_indent_93 dX9_indent_96 dX9_indent_97 dX9_indent_99 dX9_indent_102 xX9_160_164 rfl ⟨by decide, Nat.le_of_ble_eq_true rfl⟩ (by decide) (by decide) ?_
        cases hf
        exact hk
    · rw [if_neg hc] at hf
      refine r_throw (pc := 31) "java/lang/IllegalStateException" 18 dX9_indent_31 dX9_indent_34 dX9_indent_35 dX9_indent_37 dX9_indent_40 xX9_125_129 rfl ⟨by decide, Nat.le_of_ble_eq_true rfl⟩ (by decide) (by decide) ?_
      cases hf
      exact hk
  · simp only [Sum.elim_inl, Sum.elim_inr] at hf
    refine q_callVt (pc := 6) (E := q3.1) (S' := q3.2) mX9_needLine 9 [.int a1, .int q1.1] dX9_indent_6 kX9_221 fX9_needLine iX9_needLine ⟨by decide, by decide⟩ rfl rfl rfl (Nat.le_of_ble_eq_true rfl) (og e4) (mc1 := 1) (ms1 := 6) (by decide) (by decide) (C_X9_needLine q1.2 a0 a1 q1.1 (.inr q3) e4 (qX_mk _ _)) ?_
    cases hf
    exact hk
def F_X9_outdent (S : pS) (a0 : Nat) (a1 : Int32) : Option ((Int32 × pS) ⊕ (String × pS)) := (oF S a0 9).bind fun _ => (F_X9_countLines S a0).bind fun q1 => (F_X9_needLine q1.2 a0 a1 q1.1).bind fun q3 => Sum.elim (fun q3 => (oGA q3 a0 9 9).bind fun x5 => (F_X5_depthOf q3 x5 a1).bind fun q7 => if ¬ q7 = 0 then ((oGA q3 a0 9 9).bind fun x9 => (F_X5_lineAbove q3 x9 a1).bind fun q11 => (oGA q3 a0 9 9).bind fun x13 => (F_X5_itemAbove q3 x13 q11).bind fun q15 => (oGA q3 a0 9 1).bind fun x17 => (oGA q3 a0 9 0).bind fun x19 => (F_X8_copyFrom q3 x17 x19).bind fun q21 => (oGA q21 a0 9 9).bind fun x23 => (F_X5_itemOf q21 x23 q11).bind fun q25 => (oGA q21 a0 9 9).bind fun x27 => (F_X5_indexIn q21 x27 a1).bind fun q29 => (F_X9_takeBlock q21 a0 q25 q29 (1 : Int32)).bind fun q31 => (oGA q31 a0 9 9).bind fun x33 => (F_X5_indexIn q31 x33 q11).bind fun q35 => (F_X9_putBlock q31 a0 (50 : Int32) (1 : Int32) q15 (q35 + (1 : Int32))).bind fun q37 => if ¬ q37.1 = 0 then ((F_X9_adoptDraft q37.2 a0).bind fun q39 => some (.inl (q15, q39))) else (some (.inr ("java/lang/UnsupportedOperationException", q37.2)))) else (some (.inr ("java/lang/IllegalStateException", q3)))) (fun q3 => some (.inr q3)) q3
set_option maxRecDepth 100000 in
set_option maxHeartbeats 4000000 in
theorem C_X9_outdent {X : pX} {Q : pO → Nat → pF → Prop} (S : pS) (a0 : Nat) (a1 : Int32) (r : (Int32 × pS) ⊕ (String × pS)) (hf : F_X9_outdent S a0 a1 = some r) (hk : Sum.elim (fun q => Q (.inl (some (.int q.1))) q.2.1 q.2.2) (fun q => ∀ n', q.2.1 ≤ n' → Q (.inr q.1) n' (gjunk q.2.2 q.2.1)) r) : gC X mX9_outdent [.ref a0, .int a1] S.1 S.2 Q 8 1602 := by
  refine gC_of (by decide) (Nat.le_of_ble_eq_true rfl) rfl ?_
  change gW _ _ _ [some (.ref a0), some (.int a1), none, none] _ _ _ _ _ _
  unfold F_X9_outdent at hf
  obtain ⟨_, _, hf⟩ := obind hf
  refine r_aload_n (pc := 0) dX9_outdent_0 rfl ?_
  refine r_iload_n (pc := 1) dX9_outdent_1 rfl ?_
  refine r_aload_n (pc := 2) dX9_outdent_2 rfl ?_
  replace hf := obind hf
  obtain ⟨q1, e2, hf⟩ := hf
  refine q_callV (pc := 3) (v := some (.int q1.1)) (S' := q1.2) mX9_countLines 9 [] dX9_outdent_3 kX9_218 fX9_countLines iX9_countLines ⟨by decide, by decide⟩ rfl rfl rfl (Nat.le_of_ble_eq_true rfl) (og e2) (mc1 := 0) (ms1 := 0) (mc2 := 8) (ms2 := 1602) (by decide) (by decide) (C_X9_countLines S a0 q1 e2 (qR_mk _ _)) ?_
  change gW _ _ _ _ (.int q1.1 :: _) _ _ _ _ _
  replace hf := obind hf
  obtain ⟨q3, e4, hf⟩ := hf
  rcases q3 with q3 | q3
  · simp only [Sum.elim_inl, Sum.elim_inr] at hf
    refine q_callV (pc := 6) (v := none) (S' := q3) mX9_needLine 9 [.int a1, .int q1.1] dX9_outdent_6 kX9_221 fX9_needLine iX9_needLine ⟨by decide, by decide⟩ rfl rfl rfl (Nat.le_of_ble_eq_true rfl) (og e4) (mc1 := 1) (ms1 := 6) (mc2 := 7) (ms2 := 1596) (by decide) (by decide) (C_X9_needLine q1.2 a0 a1 q1.1 (.inl q3) e4 (qR_mk _ _)) ?_
    refine r_aload_n (pc := 9) dX9_outdent_9 rfl ?_
    replace hf := obind hf
    obtain ⟨x5, e6, hf⟩ := hf
    refine q_getA (pc := 10) dX9_outdent_10 gX9_59 e6 ?_
    refine r_iload_n (pc := 13) dX9_outdent_13 rfl ?_
    replace hf := obind hf
    obtain ⟨q7, e8, hf⟩ := hf
    refine q_callV (pc := 14) (v := some (.int q7)) (S' := q3) mX5_depthOf 5 [.int a1] dX9_outdent_14 kX9_236 fX5_depthOf iX5_depthOf ⟨by decide, by decide⟩ rfl rfl rfl (Nat.le_of_ble_eq_true rfl) (og e8) (mc1 := 0) (ms1 := 0) (mc2 := 7) (ms2 := 1596) (by decide) (by decide) (C_X5_depthOf q3 x5 a1 q7 e8 (qR_mk _ _)) ?_
    change gW _ _ _ _ (.int q7 :: _) _ _ _ _ _
    refine r_if_ne (pc := 17) 30 dX9_outdent_17 (by decide) (fun hc => ?_) (fun hc => ?_)
    · rw [if_pos hc] at hf
      refine r_aload_n (pc := 30) dX9_outdent_30 rfl ?_
      replace hf := obind hf
      obtain ⟨x9, e10, hf⟩ := hf
      refine q_getA (pc := 31) dX9_outdent_31 gX9_59 e10 ?_
      refine r_iload_n (pc := 34) dX9_outdent_34 rfl ?_
      replace hf := obind hf
      obtain ⟨q11, e12, hf⟩ := hf
      refine q_callV (pc := 35) (v := some (.int q11)) (S' := q3) mX5_lineAbove 5 [.int a1] dX9_outdent_35 kX9_241 fX5_lineAbove iX5_lineAbove ⟨by decide, by decide⟩ rfl rfl rfl (Nat.le_of_ble_eq_true rfl) (og e12) (mc1 := 0) (ms1 := 0) (mc2 := 7) (ms2 := 1596) (by decide) (by decide) (C_X5_lineAbove q3 x9 a1 q11 e12 (qR_mk _ _)) ?_
      change gW _ _ _ _ (.int q11 :: _) _ _ _ _ _
      refine r_istore_n (pc := 38) dX9_outdent_38 (by decide) ?_
      change gW _ _ _ [some (.ref a0), some (.int a1), some (.int q11), none] _ _ _ _ _ _
      refine r_aload_n (pc := 39) dX9_outdent_39 rfl ?_
      replace hf := obind hf
      obtain ⟨x13, e14, hf⟩ := hf
      refine q_getA (pc := 40) dX9_outdent_40 gX9_59 e14 ?_
      refine r_iload_n (pc := 43) dX9_outdent_43 rfl ?_
      replace hf := obind hf
      obtain ⟨q15, e16, hf⟩ := hf
      refine q_callV (pc := 44) (v := some (.int q15)) (S' := q3) mX5_itemAbove 5 [.int q11] dX9_outdent_44 kX9_224 fX5_itemAbove iX5_itemAbove ⟨by decide, by decide⟩ rfl rfl rfl (Nat.le_of_ble_eq_true rfl) (og e16) (mc1 := 0) (ms1 := 0) (mc2 := 7) (ms2 := 1596) (by decide) (by decide) (C_X5_itemAbove q3 x13 q11 q15 e16 (qR_mk _ _)) ?_
      change gW _ _ _ _ (.int q15 :: _) _ _ _ _ _
      refine r_istore_n (pc := 47) dX9_outdent_47 (by decide) ?_
      change gW _ _ _ [some (.ref a0), some (.int a1), some (.int q11), some (.int q15)] _ _ _ _ _ _
      refine r_aload_n (pc := 48) dX9_outdent_48 rfl ?_
      replace hf := obind hf
      obtain ⟨x17, e18, hf⟩ := hf
      refine q_getA (pc := 49) dX9_outdent_49 gX9_16 e18 ?_
      refine r_aload_n (pc := 52) dX9_outdent_52 rfl ?_
      replace hf := obind hf
      obtain ⟨x19, e20, hf⟩ := hf
      refine q_getA (pc := 53) dX9_outdent_53 gX9_12 e20 ?_
      replace hf := obind hf
      obtain ⟨q21, e22, hf⟩ := hf
      refine q_callV (pc := 56) (v := none) (S' := q21) mX8_copyFrom 8 [.ref x19] dX9_outdent_56 kX9_165 fX8_copyFrom iX8_copyFrom ⟨by decide, by decide⟩ rfl rfl rfl (Nat.le_of_ble_eq_true rfl) (og e22) (mc1 := 0) (ms1 := 0) (mc2 := 7) (ms2 := 1596) (by decide) (by decide) (C_X8_copyFrom q3 x17 x19 q21 e22 (qR_mk _ _)) ?_
      refine r_aload_n (pc := 59) dX9_outdent_59 rfl ?_
      refine r_aload_n (pc := 60) dX9_outdent_60 rfl ?_
      replace hf := obind hf
      obtain ⟨x23, e24, hf⟩ := hf
      refine q_getA (pc := 61) dX9_outdent_61 gX9_59 e24 ?_
      refine r_iload_n (pc := 64) dX9_outdent_64 rfl ?_
      replace hf := obind hf
      obtain ⟨q25, e26, hf⟩ := hf
      refine q_callV (pc := 65) (v := some (.int q25)) (S' := q21) mX5_itemOf 5 [.int q11] dX9_outdent_65 kX9_244 fX5_itemOf iX5_itemOf ⟨by decide, by decide⟩ rfl rfl rfl (Nat.le_of_ble_eq_true rfl) (og e26) (mc1 := 0) (ms1 := 0) (mc2 := 7) (ms2 := 1596) (by decide) (by decide) (C_X5_itemOf q21 x23 q11 q25 e26 (qR_mk _ _)) ?_
      change gW _ _ _ _ (.int q25 :: _) _ _ _ _ _
      refine r_aload_n (pc := 68) dX9_outdent_68 rfl ?_
      replace hf := obind hf
      obtain ⟨x27, e28, hf⟩ := hf
      refine q_getA (pc := 69) dX9_outdent_69 gX9_59 e28 ?_
      refine r_iload_n (pc := 72) dX9_outdent_72 rfl ?_
      replace hf := obind hf
      obtain ⟨q29, e30, hf⟩ := hf
      refine q_callV (pc := 73) (v := some (.int q29)) (S' := q21) mX5_indexIn 5 [.int a1] dX9_outdent_73 kX9_227 fX5_indexIn iX5_indexIn ⟨by decide, by decide⟩ rfl rfl rfl (Nat.le_of_ble_eq_true rfl) (og e30) (mc1 := 0) (ms1 := 0) (mc2 := 7) (ms2 := 1596) (by decide) (by decide) (C_X5_indexIn q21 x27 a1 q29 e30 (qR_mk _ _)) ?_
      change gW _ _ _ _ (.int q29 :: _) _ _ _ _ _
      refine r_iconst (pc := 76) (1 : Int32) dX9_outdent_76 (by decide) ?_
      replace hf := obind hf
      obtain ⟨q31, e32, hf⟩ := hf
      refine q_callV (pc := 77) (v := none) (S' := q31) mX9_takeBlock 9 [.int q25, .int q29, .int (1 : Int32)] dX9_outdent_77 kX9_211 fX9_takeBlock iX9_takeBlock ⟨by decide, by decide⟩ rfl rfl rfl (Nat.le_of_ble_eq_true rfl) (og e32) (mc1 := 0) (ms1 := 0) (mc2 := 7) (ms2 := 1596) (by decide) (by decide) (C_X9_takeBlock q21 a0 q25 q29 (1 : Int32) q31 e32 (qR_mk _ _)) ?_
      refine r_aload_n (pc := 80) dX9_outdent_80 rfl ?_
      refine r_bipush (pc := 81) (50 : Int32) dX9_outdent_81 (by decide) ?_
      refine r_iconst (pc := 83) (1 : Int32) dX9_outdent_83 (by decide) ?_
      refine r_iload_n (pc := 84) dX9_outdent_84 rfl ?_
      refine r_aload_n (pc := 85) dX9_outdent_85 rfl ?_
      replace hf := obind hf
      obtain ⟨x33, e34, hf⟩ := hf
      refine q_getA (pc := 86) dX9_outdent_86 gX9_59 e34 ?_
      refine r_iload_n (pc := 89) dX9_outdent_89 rfl ?_
      replace hf := obind hf
      obtain ⟨q35, e36, hf⟩ := hf
      refine q_callV (pc := 90) (v := some (.int q35)) (S' := q31) mX5_indexIn 5 [.int q11] dX9_outdent_90 kX9_227 fX5_indexIn iX5_indexIn ⟨by decide, by decide⟩ rfl rfl rfl (Nat.le_of_ble_eq_true rfl) (og e36) (mc1 := 0) (ms1 := 0) (mc2 := 7) (ms2 := 1596) (by decide) (by decide) (C_X5_indexIn q31 x33 q11 q35 e36 (qR_mk _ _)) ?_
      change gW _ _ _ _ (.int q35 :: _) _ _ _ _ _
      refine r_iconst (pc := 93) (1 : Int32) dX9_outdent_93 (by decide) ?_
      refine r_iadd (pc := 94) dX9_outdent_94 ?_
      replace hf := obind hf
      obtain ⟨q37, e38, hf⟩ := hf
      refine q_callV (pc := 95) (v := some (.int q37.1)) (S' := q37.2) mX9_putBlock 9 [.int (50 : Int32), .int (1 : Int32), .int q15, .int (q35 + (1 : Int32))] dX9_outdent_95 kX9_214 fX9_putBlock iX9_putBlock ⟨by decide, by decide⟩ rfl rfl rfl (Nat.le_of_ble_eq_true rfl) (og e38) (mc1 := 0) (ms1 := 0) (mc2 := 7) (ms2 := 1596) (by decide) (by decide) (C_X9_putBlock q31 a0 (50 : Int32) (1 : Int32) q15 (q35 + (1 : Int32)) q37 e38 (qR_mk _ _)) ?_
      change gW _ _ _ _ (.int q37.1 :: _) _ _ _ _ _
      refine r_if_ne (pc := 98) 111 dX9_outdent_98 (by decide) (fun hc => ?_) (fun hc => ?_)
      · rw [if_pos hc] at hf
        refine r_aload_n (pc := 111) dX9_outdent_111 rfl ?_
        replace hf := obind hf
        obtain ⟨q39, e40, hf⟩ := hf
        refine q_callV (pc := 112) (v := none) (S' := q39) mX9_adoptDraft 9 [] dX9_outdent_112 kX9_176 fX9_adoptDraft iX9_adoptDraft ⟨by decide, by decide⟩ rfl rfl rfl (Nat.le_of_ble_eq_true rfl) (og e40) (mc1 := 7) (ms1 := 1596) (mc2 := 0) (ms2 := 0) (by decide) (by decide) (C_X9_adoptDraft q37.2 a0 q39 e40 (qR_mk _ _)) ?_
        refine r_iload_n (pc := 115) dX9_outdent_115 rfl ?_
        refine r_ireturn (pc := 116) .int dX9_outdent_116 rfl rfl ?_
        cases hf
        exact hk
      · rw [if_neg hc] at hf
        refine r_throw (pc := 101) "java/lang/UnsupportedOperationException" 13 dX9_outdent_101 dX9_outdent_104 dX9_outdent_105 dX9_outdent_107 dX9_outdent_110 xX9_160_164 rfl ⟨by decide, Nat.le_of_ble_eq_true rfl⟩ (by decide) (by decide) ?_
        cases hf
        exact hk
    · rw [if_neg hc] at hf
      refine r_throw (pc := 20) "java/lang/IllegalStateException" 19 dX9_outdent_20 dX9_outdent_23 dX9_outdent_24 dX9_outdent_26 dX9_outdent_29 xX9_125_129 rfl ⟨by decide, Nat.le_of_ble_eq_true rfl⟩ (by decide) (by decide) ?_
      cases hf
      exact hk
  · simp only [Sum.elim_inl, Sum.elim_inr] at hf
    refine q_callVt (pc := 6) (E := q3.1) (S' := q3.2) mX9_needLine 9 [.int a1, .int q1.1] dX9_outdent_6 kX9_221 fX9_needLine iX9_needLine ⟨by decide, by decide⟩ rfl rfl rfl (Nat.le_of_ble_eq_true rfl) (og e4) (mc1 := 1) (ms1 := 6) (by decide) (by decide) (C_X9_needLine q1.2 a0 a1 q1.1 (.inr q3) e4 (qX_mk _ _)) ?_
    cases hf
    exact hk
def F_X9_rename (S : pS) (a0 : Nat) (a1 : Int32) : Option ((Int32 × pS) ⊕ (String × pS)) := (oF S a0 9).bind fun _ => (F_X9_needNamedItem S a0 a1).bind fun q1 => Sum.elim (fun q1 => (F_X9_takeName q1 a0).bind fun q3 => Sum.elim (fun q3 => (oGA q3.2 a0 9 0).bind fun x5 => (F_X8_nameLength q3.2 x5 a1).bind fun q7 => (oGA q3.2 a0 9 1).bind fun x9 => (oGA q3.2 a0 9 0).bind fun x11 => (F_X8_copyFrom q3.2 x9 x11).bind fun q13 => (oGA q13 a0 9 1).bind fun x15 => (oGA q13 a0 9 13).bind fun x17 => (F_X8_setName q13 x15 a1 x17 (0 : Int32) q3.1).bind fun q19 => (F_X9_adoptDraft q19 a0).bind fun q21 => some (.inl (q7, q21))) (fun q3 => some (.inr q3)) q3) (fun q1 => some (.inr q1)) q1
set_option maxRecDepth 100000 in
set_option maxHeartbeats 4000000 in
theorem C_X9_rename {X : pX} {Q : pO → Nat → pF → Prop} (S : pS) (a0 : Nat) (a1 : Int32) (r : (Int32 × pS) ⊕ (String × pS)) (hf : F_X9_rename S a0 a1 = some r) (hk : Sum.elim (fun q => Q (.inl (some (.int q.1))) q.2.1 q.2.2) (fun q => ∀ n', q.2.1 ≤ n' → Q (.inr q.1) n' (gjunk q.2.2 q.2.1)) r) : gC X mX9_rename [.ref a0, .int a1] S.1 S.2 Q 9 1608 := by
  refine gC_of (by decide) (Nat.le_of_ble_eq_true rfl) rfl ?_
  change gW _ _ _ [some (.ref a0), some (.int a1), none, none] _ _ _ _ _ _
  unfold F_X9_rename at hf
  obtain ⟨_, _, hf⟩ := obind hf
  refine r_aload_n (pc := 0) dX9_rename_0 rfl ?_
  refine r_iload_n (pc := 1) dX9_rename_1 rfl ?_
  replace hf := obind hf
  obtain ⟨q1, e2, hf⟩ := hf
  rcases q1 with q1 | q1
  · simp only [Sum.elim_inl, Sum.elim_inr] at hf
    refine q_callV (pc := 2) (v := none) (S' := q1) mX9_needNamedItem 9 [.int a1] dX9_rename_2 kX9_179 fX9_needNamedItem iX9_needNamedItem ⟨by decide, by decide⟩ rfl rfl rfl (Nat.le_of_ble_eq_true rfl) (og e2) (mc1 := 1) (ms1 := 6) (mc2 := 8) (ms2 := 1602) (by decide) (by decide) (C_X9_needNamedItem S a0 a1 (.inl q1) e2 (qR_mk _ _)) ?_
    refine r_aload_n (pc := 5) dX9_rename_5 rfl ?_
    replace hf := obind hf
    obtain ⟨q3, e4, hf⟩ := hf
    rcases q3 with q3 | q3
    · simp only [Sum.elim_inl, Sum.elim_inr] at hf
      refine q_callV (pc := 6) (v := some (.int q3.1)) (S' := q3.2) mX9_takeName 9 [] dX9_rename_6 kX9_149 fX9_takeName iX9_takeName ⟨by decide, by decide⟩ rfl rfl rfl (Nat.le_of_ble_eq_true rfl) (og e4) (mc1 := 1) (ms1 := 6) (mc2 := 7) (ms2 := 1596) (by decide) (by decide) (C_X9_takeName q1 a0 (.inl q3) e4 (qR_mk _ _)) ?_
      change gW _ _ _ _ (.int q3.1 :: _) _ _ _ _ _
      refine r_istore_n (pc := 9) dX9_rename_9 (by decide) ?_
      change gW _ _ _ [some (.ref a0), some (.int a1), some (.int q3.1), none] _ _ _ _ _ _
      refine r_aload_n (pc := 10) dX9_rename_10 rfl ?_
      replace hf := obind hf
      obtain ⟨x5, e6, hf⟩ := hf
      refine q_getA (pc := 11) dX9_rename_11 gX9_12 e6 ?_
      refine r_iload_n (pc := 14) dX9_rename_14 rfl ?_
      replace hf := obind hf
      obtain ⟨q7, e8, hf⟩ := hf
      refine q_callV (pc := 15) (v := some (.int q7)) (S' := q3.2) mX8_nameLength 8 [.int a1] dX9_rename_15 kX9_247 fX8_nameLength iX8_nameLength ⟨by decide, by decide⟩ rfl rfl rfl (Nat.le_of_ble_eq_true rfl) (og e8) (mc1 := 0) (ms1 := 0) (mc2 := 7) (ms2 := 1596) (by decide) (by decide) (C_X8_nameLength q3.2 x5 a1 q7 e8 (qR_mk _ _)) ?_
      change gW _ _ _ _ (.int q7 :: _) _ _ _ _ _
      refine r_istore_n (pc := 18) dX9_rename_18 (by decide) ?_
      change gW _ _ _ [some (.ref a0), some (.int a1), some (.int q3.1), some (.int q7)] _ _ _ _ _ _
      refine r_aload_n (pc := 19) dX9_rename_19 rfl ?_
      replace hf := obind hf
      obtain ⟨x9, e10, hf⟩ := hf
      refine q_getA (pc := 20) dX9_rename_20 gX9_16 e10 ?_
      refine r_aload_n (pc := 23) dX9_rename_23 rfl ?_
      replace hf := obind hf
      obtain ⟨x11, e12, hf⟩ := hf
      refine q_getA (pc := 24) dX9_rename_24 gX9_12 e12 ?_
      replace hf := obind hf
      obtain ⟨q13, e14, hf⟩ := hf
      refine q_callV (pc := 27) (v := none) (S' := q13) mX8_copyFrom 8 [.ref x11] dX9_rename_27 kX9_165 fX8_copyFrom iX8_copyFrom ⟨by decide, by decide⟩ rfl rfl rfl (Nat.le_of_ble_eq_true rfl) (og e14) (mc1 := 0) (ms1 := 0) (mc2 := 7) (ms2 := 1596) (by decide) (by decide) (C_X8_copyFrom q3.2 x9 x11 q13 e14 (qR_mk _ _)) ?_
      refine r_aload_n (pc := 30) dX9_rename_30 rfl ?_
      replace hf := obind hf
      obtain ⟨x15, e16, hf⟩ := hf
      refine q_getA (pc := 31) dX9_rename_31 gX9_16 e16 ?_
      refine r_iload_n (pc := 34) dX9_rename_34 rfl ?_
      refine r_aload_n (pc := 35) dX9_rename_35 rfl ?_
      replace hf := obind hf
      obtain ⟨x17, e18, hf⟩ := hf
      refine q_getA (pc := 36) dX9_rename_36 gX9_84 e18 ?_
      refine r_iconst (pc := 39) (0 : Int32) dX9_rename_39 (by decide) ?_
      refine r_iload_n (pc := 40) dX9_rename_40 rfl ?_
      replace hf := obind hf
      obtain ⟨q19, e20, hf⟩ := hf
      refine q_callV (pc := 41) (v := none) (S' := q19) mX8_setName 8 [.int a1, .ref x17, .int (0 : Int32), .int q3.1] dX9_rename_41 kX9_250 fX8_setName iX8_setName ⟨by decide, by decide⟩ rfl rfl rfl (Nat.le_of_ble_eq_true rfl) (og e20) (mc1 := 0) (ms1 := 0) (mc2 := 7) (ms2 := 1596) (by decide) (by decide) (C_X8_setName q13 x15 a1 x17 (0 : Int32) q3.1 q19 e20 (qR_mk _ _)) ?_
      refine r_aload_n (pc := 44) dX9_rename_44 rfl ?_
      replace hf := obind hf
      obtain ⟨q21, e22, hf⟩ := hf
      refine q_callV (pc := 45) (v := none) (S' := q21) mX9_adoptDraft 9 [] dX9_rename_45 kX9_176 fX9_adoptDraft iX9_adoptDraft ⟨by decide, by decide⟩ rfl rfl rfl (Nat.le_of_ble_eq_true rfl) (og e22) (mc1 := 7) (ms1 := 1596) (mc2 := 0) (ms2 := 0) (by decide) (by decide) (C_X9_adoptDraft q19 a0 q21 e22 (qR_mk _ _)) ?_
      refine r_iload_n (pc := 48) dX9_rename_48 rfl ?_
      refine r_ireturn (pc := 49) .int dX9_rename_49 rfl rfl ?_
      cases hf
      exact hk
    · simp only [Sum.elim_inl, Sum.elim_inr] at hf
      refine q_callVt (pc := 6) (E := q3.1) (S' := q3.2) mX9_takeName 9 [] dX9_rename_6 kX9_149 fX9_takeName iX9_takeName ⟨by decide, by decide⟩ rfl rfl rfl (Nat.le_of_ble_eq_true rfl) (og e4) (mc1 := 1) (ms1 := 6) (by decide) (by decide) (C_X9_takeName q1 a0 (.inr q3) e4 (qX_mk _ _)) ?_
      cases hf
      exact hk
  · simp only [Sum.elim_inl, Sum.elim_inr] at hf
    refine q_callVt (pc := 2) (E := q1.1) (S' := q1.2) mX9_needNamedItem 9 [.int a1] dX9_rename_2 kX9_179 fX9_needNamedItem iX9_needNamedItem ⟨by decide, by decide⟩ rfl rfl rfl (Nat.le_of_ble_eq_true rfl) (og e2) (mc1 := 1) (ms1 := 6) (by decide) (by decide) (C_X9_needNamedItem S a0 a1 (.inr q1) e2 (qX_mk _ _)) ?_
    cases hf
    exact hk
def F_X9_setNumber_45 (S : pS) : Option ((Int32 × pS) ⊕ (String × pS)) := some (.inr ("java/lang/IllegalArgumentException", S))
set_option maxRecDepth 100000 in
set_option maxHeartbeats 4000000 in
theorem W_X9_setNumber_45 {X : pX} {Q : pO → Nat → pF → Prop} (S : pS) (r : (Int32 × pS) ⊕ (String × pS)) (hf : F_X9_setNumber_45 S = some r) (hk : Sum.elim (fun q => Q (.inl (some (.int q.1))) q.2.1 q.2.2) (fun q => ∀ n', q.2.1 ≤ n' → Q (.inr q.1) n' (gjunk q.2.2 q.2.1)) r) : gW X mX9_setNumber 45 [none, none, none, none, none, none, none] [] S.1 S.2 Q 1 6 := by
  unfold F_X9_setNumber_45 at hf
  refine r_throw (pc := 45) "java/lang/IllegalArgumentException" 20 dX9_setNumber_45 dX9_setNumber_48 dX9_setNumber_49 dX9_setNumber_51 dX9_setNumber_54 xX9_114_118 rfl ⟨by decide, Nat.le_of_ble_eq_true rfl⟩ (by decide) (by decide) ?_
  cases hf
  exact hk
def F_X9_setNumber_116 (S : pS) (l0 : Nat) (l6 : Int32) : Option ((Int32 × pS) ⊕ (String × pS)) := (F_X9_adoptDraft S l0).bind fun q17 => some (.inl (l6, q17))
set_option maxRecDepth 100000 in
set_option maxHeartbeats 4000000 in
theorem W_X9_setNumber_116 {X : pX} {Q : pO → Nat → pF → Prop} (S : pS) (l0 : Nat) (l6 : Int32) (r : (Int32 × pS) ⊕ (String × pS)) (hf : F_X9_setNumber_116 S l0 l6 = some r) (hk : Sum.elim (fun q => Q (.inl (some (.int q.1))) q.2.1 q.2.2) (fun q => ∀ n', q.2.1 ≤ n' → Q (.inr q.1) n' (gjunk q.2.2 q.2.1)) r) : gW X mX9_setNumber 116 [some (.ref l0), none, none, none, none, none, some (.int l6)] [] S.1 S.2 Q 7 1596 := by
  unfold F_X9_setNumber_116 at hf
  refine r_aload_n (pc := 116) dX9_setNumber_116 rfl ?_
  replace hf := obind hf
  obtain ⟨q17, e18, hf⟩ := hf
  refine q_callV (pc := 117) (v := none) (S' := q17) mX9_adoptDraft 9 [] dX9_setNumber_117 kX9_176 fX9_adoptDraft iX9_adoptDraft ⟨by decide, by decide⟩ rfl rfl rfl (Nat.le_of_ble_eq_true rfl) (og e18) (mc1 := 7) (ms1 := 1596) (mc2 := 0) (ms2 := 0) (by decide) (by decide) (C_X9_adoptDraft S l0 q17 e18 (qR_mk _ _)) ?_
  refine r_iload (pc := 120) dX9_setNumber_120 rfl ?_
  refine r_ireturn (pc := 122) .int dX9_setNumber_122 rfl rfl ?_
  cases hf
  exact hk
def F_X9_setNumber_78 (S : pS) (l0 : Nat) (l1 : Int32) (l2 : Int32) (l3 : Int32) (t0 : Int32) : Option ((Int32 × pS) ⊕ (String × pS)) := (oGA S l0 9 1).bind fun x7 => (oGA S l0 9 0).bind fun x9 => (F_X8_copyFrom S x7 x9).bind fun q11 => if l2 = 0 then ((oGA q11 l0 9 1).bind fun x13 => (F_X8_setValue q11 x13 l1 l3).bind fun q15 => F_X9_setNumber_116 q15 l0 t0) else ((oGA q11 l0 9 1).bind fun x19 => (F_X8_setDay q11 x19 l1 l3).bind fun q21 => F_X9_setNumber_116 q21 l0 t0)
set_option maxRecDepth 100000 in
set_option maxHeartbeats 4000000 in
theorem W_X9_setNumber_78 {X : pX} {Q : pO → Nat → pF → Prop} (S : pS) (l0 : Nat) (l1 : Int32) (l2 : Int32) (l3 : Int32) (t0 : Int32) (r : (Int32 × pS) ⊕ (String × pS)) (hf : F_X9_setNumber_78 S l0 l1 l2 l3 t0 = some r) (hk : Sum.elim (fun q => Q (.inl (some (.int q.1))) q.2.1 q.2.2) (fun q => ∀ n', q.2.1 ≤ n' → Q (.inr q.1) n' (gjunk q.2.2 q.2.1)) r) : gW X mX9_setNumber 78 [some (.ref l0), some (.int l1), some (.int l2), some (.int l3), none, none, none] [.int t0] S.1 S.2 Q 7 1596 := by
  unfold F_X9_setNumber_78 at hf
  refine r_istore (pc := 78) dX9_setNumber_78 (by decide) ?_
  change gW _ _ _ [some (.ref l0), some (.int l1), some (.int l2), some (.int l3), none, none, some (.int t0)] _ _ _ _ _ _
  refine r_aload_n (pc := 80) dX9_setNumber_80 rfl ?_
  replace hf := obind hf
  obtain ⟨x7, e8, hf⟩ := hf
  refine q_getA (pc := 81) dX9_setNumber_81 gX9_16 e8 ?_
  refine r_aload_n (pc := 84) dX9_setNumber_84 rfl ?_
  replace hf := obind hf
  obtain ⟨x9, e10, hf⟩ := hf
  refine q_getA (pc := 85) dX9_setNumber_85 gX9_12 e10 ?_
  replace hf := obind hf
  obtain ⟨q11, e12, hf⟩ := hf
  refine q_callV (pc := 88) (v := none) (S' := q11) mX8_copyFrom 8 [.ref x9] dX9_setNumber_88 kX9_165 fX8_copyFrom iX8_copyFrom ⟨by decide, by decide⟩ rfl rfl rfl (Nat.le_of_ble_eq_true rfl) (og e12) (mc1 := 0) (ms1 := 0) (mc2 := 7) (ms2 := 1596) (by decide) (by decide) (C_X8_copyFrom S x7 x9 q11 e12 (qR_mk _ _)) ?_
  refine r_iload_n (pc := 91) dX9_setNumber_91 rfl ?_
  refine r_if_eq (pc := 92) 107 dX9_setNumber_92 (by decide) (fun hc => ?_) (fun hc => ?_)
  · rw [if_pos hc] at hf
    refine r_aload_n (pc := 107) dX9_setNumber_107 rfl ?_
    replace hf := obind hf
    obtain ⟨x13, e14, hf⟩ := hf
    refine q_getA (pc := 108) dX9_setNumber_108 gX9_16 e14 ?_
    refine r_iload_n (pc := 111) dX9_setNumber_111 rfl ?_
    refine r_iload_n (pc := 112) dX9_setNumber_112 rfl ?_
    replace hf := obind hf
    obtain ⟨q15, e16, hf⟩ := hf
    refine q_callV (pc := 113) (v := none) (S' := q15) mX8_setValue 8 [.int l1, .int l3] dX9_setNumber_113 kX9_265 fX8_setValue iX8_setValue ⟨by decide, by decide⟩ rfl rfl rfl (Nat.le_of_ble_eq_true rfl) (og e16) (mc1 := 0) (ms1 := 0) (mc2 := 7) (ms2 := 1596) (by decide) (by decide) (C_X8_setValue q11 x13 l1 l3 q15 e16 (qR_mk _ _)) ?_
    refine gW.mono (mc := 7) (ms := 1596) ?_ (fun _ _ _ q => q) (by decide) (by decide)
    exact gW.weak (by simp [gle]) (W_X9_setNumber_116 q15 l0 t0 r hf hk)
  · rw [if_neg hc] at hf
    refine r_aload_n (pc := 95) dX9_setNumber_95 rfl ?_
    replace hf := obind hf
    obtain ⟨x19, e20, hf⟩ := hf
    refine q_getA (pc := 96) dX9_setNumber_96 gX9_16 e20 ?_
    refine r_iload_n (pc := 99) dX9_setNumber_99 rfl ?_
    refine r_iload_n (pc := 100) dX9_setNumber_100 rfl ?_
    replace hf := obind hf
    obtain ⟨q21, e22, hf⟩ := hf
    refine q_callV (pc := 101) (v := none) (S' := q21) mX8_setDay 8 [.int l1, .int l3] dX9_setNumber_101 kX9_262 fX8_setDay iX8_setDay ⟨by decide, by decide⟩ rfl rfl rfl (Nat.le_of_ble_eq_true rfl) (og e22) (mc1 := 0) (ms1 := 0) (mc2 := 7) (ms2 := 1596) (by decide) (by decide) (C_X8_setDay q11 x19 l1 l3 q21 e22 (qR_mk _ _)) ?_
    refine r_goto (pc := 104) 116 dX9_setNumber_104 (by decide) ?_
    refine gW.mono (mc := 7) (ms := 1596) ?_ (fun _ _ _ q => q) (by decide) (by decide)
    exact gW.weak (by simp [gle]) (W_X9_setNumber_116 q21 l0 t0 r hf hk)
def F_X9_setNumber_31 (S : pS) (l0 : Nat) (l1 : Int32) (l2 : Int32) (l3 : Int32) (l4 : Int32) (t0 : Int32) : Option ((Int32 × pS) ⊕ (String × pS)) := if l3 < l4 then (F_X9_setNumber_45 S) else (if l3 ≤ t0 then (if l2 = 0 then ((oGA S l0 9 0).bind fun x3 => (F_X8_valueOf S x3 l1).bind fun q5 => F_X9_setNumber_78 S l0 l1 l2 l3 q5) else ((oGA S l0 9 0).bind fun x23 => (F_X8_dayOf S x23 l1).bind fun q25 => F_X9_setNumber_78 S l0 l1 l2 l3 q25)) else (F_X9_setNumber_45 S))
set_option maxRecDepth 100000 in
set_option maxHeartbeats 4000000 in
theorem W_X9_setNumber_31 {X : pX} {Q : pO → Nat → pF → Prop} (S : pS) (l0 : Nat) (l1 : Int32) (l2 : Int32) (l3 : Int32) (l4 : Int32) (t0 : Int32) (r : (Int32 × pS) ⊕ (String × pS)) (hf : F_X9_setNumber_31 S l0 l1 l2 l3 l4 t0 = some r) (hk : Sum.elim (fun q => Q (.inl (some (.int q.1))) q.2.1 q.2.2) (fun q => ∀ n', q.2.1 ≤ n' → Q (.inr q.1) n' (gjunk q.2.2 q.2.1)) r) : gW X mX9_setNumber 31 [some (.ref l0), some (.int l1), some (.int l2), some (.int l3), some (.int l4), none, none] [.int t0] S.1 S.2 Q 7 1596 := by
  unfold F_X9_setNumber_31 at hf
  refine r_istore (pc := 31) dX9_setNumber_31 (by decide) ?_
  change gW _ _ _ [some (.ref l0), some (.int l1), some (.int l2), some (.int l3), some (.int l4), some (.int t0), none] _ _ _ _ _ _
  refine r_iload_n (pc := 33) dX9_setNumber_33 rfl ?_
  refine r_iload (pc := 34) dX9_setNumber_34 rfl ?_
  refine r_icmp_lt (pc := 36) 45 dX9_setNumber_36 (by decide) (fun hc => ?_) (fun hc => ?_)
  · rw [if_pos hc] at hf
    refine gW.mono (mc := 1) (ms := 6) ?_ (fun _ _ _ q => q) (by decide) (by decide)
    exact gW.weak (by simp [gle]) (W_X9_setNumber_45 S r hf hk)
  · rw [if_neg hc] at hf
    refine r_iload_n (pc := 39) dX9_setNumber_39 rfl ?_
    refine r_iload (pc := 40) dX9_setNumber_40 rfl ?_
    refine r_icmp_le (pc := 42) 55 dX9_setNumber_42 (by decide) (fun hc => ?_) (fun hc => ?_)
    · rw [if_pos hc] at hf
      refine r_iload_n (pc := 55) dX9_setNumber_55 rfl ?_
      refine r_if_eq (pc := 56) 70 dX9_setNumber_56 (by decide) (fun hc => ?_) (fun hc => ?_)
      · rw [if_pos hc] at hf
        refine r_aload_n (pc := 70) dX9_setNumber_70 rfl ?_
        replace hf := obind hf
        obtain ⟨x3, e4, hf⟩ := hf
        refine q_getA (pc := 71) dX9_setNumber_71 gX9_12 e4 ?_
        refine r_iload_n (pc := 74) dX9_setNumber_74 rfl ?_
        replace hf := obind hf
        obtain ⟨q5, e6, hf⟩ := hf
        refine q_callV (pc := 75) (v := some (.int q5)) (S' := S) mX8_valueOf 8 [.int l1] dX9_setNumber_75 kX9_259 fX8_valueOf iX8_valueOf ⟨by decide, by decide⟩ rfl rfl rfl (Nat.le_of_ble_eq_true rfl) (og e6) (mc1 := 0) (ms1 := 0) (mc2 := 7) (ms2 := 1596) (by decide) (by decide) (C_X8_valueOf S x3 l1 q5 e6 (qR_mk _ _)) ?_
        change gW _ _ _ _ (.int q5 :: _) _ _ _ _ _
        refine gW.mono (mc := 7) (ms := 1596) ?_ (fun _ _ _ q => q) (by decide) (by decide)
        exact gW.weak (by simp [gle]) (W_X9_setNumber_78 S l0 l1 l2 l3 q5 r hf hk)
      · rw [if_neg hc] at hf
        refine r_aload_n (pc := 59) dX9_setNumber_59 rfl ?_
        replace hf := obind hf
        obtain ⟨x23, e24, hf⟩ := hf
        refine q_getA (pc := 60) dX9_setNumber_60 gX9_12 e24 ?_
        refine r_iload_n (pc := 63) dX9_setNumber_63 rfl ?_
        replace hf := obind hf
        obtain ⟨q25, e26, hf⟩ := hf
        refine q_callV (pc := 64) (v := some (.int q25)) (S' := S) mX8_dayOf 8 [.int l1] dX9_setNumber_64 kX9_256 fX8_dayOf iX8_dayOf ⟨by decide, by decide⟩ rfl rfl rfl (Nat.le_of_ble_eq_true rfl) (og e26) (mc1 := 0) (ms1 := 0) (mc2 := 7) (ms2 := 1596) (by decide) (by decide) (C_X8_dayOf S x23 l1 q25 e26 (qR_mk _ _)) ?_
        change gW _ _ _ _ (.int q25 :: _) _ _ _ _ _
        refine r_goto (pc := 67) 78 dX9_setNumber_67 (by decide) ?_
        refine gW.mono (mc := 7) (ms := 1596) ?_ (fun _ _ _ q => q) (by decide) (by decide)
        exact gW.weak (by simp [gle]) (W_X9_setNumber_78 S l0 l1 l2 l3 q25 r hf hk)
    · rw [if_neg hc] at hf
      refine gW.mono (mc := 1) (ms := 6) ?_ (fun _ _ _ q => q) (by decide) (by decide)
      exact gW.weak (by simp [gle]) (W_X9_setNumber_45 S r hf hk)
def F_X9_setNumber_16 (S : pS) (l0 : Nat) (l1 : Int32) (l2 : Int32) (l3 : Int32) (t0 : Int32) : Option ((Int32 × pS) ⊕ (String × pS)) := if l2 = 0 then (F_X9_setNumber_31 S l0 l1 l2 l3 t0 (999 : Int32)) else (F_X9_setNumber_31 S l0 l1 l2 l3 t0 (9999 : Int32))
set_option maxRecDepth 100000 in
set_option maxHeartbeats 4000000 in
theorem W_X9_setNumber_16 {X : pX} {Q : pO → Nat → pF → Prop} (S : pS) (l0 : Nat) (l1 : Int32) (l2 : Int32) (l3 : Int32) (t0 : Int32) (r : (Int32 × pS) ⊕ (String × pS)) (hf : F_X9_setNumber_16 S l0 l1 l2 l3 t0 = some r) (hk : Sum.elim (fun q => Q (.inl (some (.int q.1))) q.2.1 q.2.2) (fun q => ∀ n', q.2.1 ≤ n' → Q (.inr q.1) n' (gjunk q.2.2 q.2.1)) r) : gW X mX9_setNumber 16 [some (.ref l0), some (.int l1), some (.int l2), some (.int l3), none, none, none] [.int t0] S.1 S.2 Q 7 1596 := by
  unfold F_X9_setNumber_16 at hf
  refine r_istore (pc := 16) dX9_setNumber_16 (by decide) ?_
  change gW _ _ _ [some (.ref l0), some (.int l1), some (.int l2), some (.int l3), some (.int t0), none, none] _ _ _ _ _ _
  refine r_iload_n (pc := 18) dX9_setNumber_18 rfl ?_
  refine r_if_eq (pc := 19) 28 dX9_setNumber_19 (by decide) (fun hc => ?_) (fun hc => ?_)
  · rw [if_pos hc] at hf
    refine r_sipush (pc := 28) (999 : Int32) dX9_setNumber_28 (by decide) ?_
    refine gW.mono (mc := 7) (ms := 1596) ?_ (fun _ _ _ q => q) (by decide) (by decide)
    exact gW.weak (by simp [gle]) (W_X9_setNumber_31 S l0 l1 l2 l3 t0 (999 : Int32) r hf hk)
  · rw [if_neg hc] at hf
    refine r_sipush (pc := 22) (9999 : Int32) dX9_setNumber_22 (by decide) ?_
    refine r_goto (pc := 25) 31 dX9_setNumber_25 (by decide) ?_
    refine gW.mono (mc := 7) (ms := 1596) ?_ (fun _ _ _ q => q) (by decide) (by decide)
    exact gW.weak (by simp [gle]) (W_X9_setNumber_31 S l0 l1 l2 l3 t0 (9999 : Int32) r hf hk)
def F_X9_setNumber (S : pS) (a0 : Nat) (a1 : Int32) (a2 : Int32) (a3 : Int32) : Option ((Int32 × pS) ⊕ (String × pS)) := (oF S a0 9).bind fun _ => (F_X9_needItem S a0 a1).bind fun q1 => Sum.elim (fun q1 => if a2 = 0 then (F_X9_setNumber_16 q1 a0 a1 a2 a3 (-999 : Int32)) else (F_X9_setNumber_16 q1 a0 a1 a2 a3 (-1 : Int32))) (fun q1 => some (.inr q1)) q1
set_option maxRecDepth 100000 in
set_option maxHeartbeats 4000000 in
theorem C_X9_setNumber {X : pX} {Q : pO → Nat → pF → Prop} (S : pS) (a0 : Nat) (a1 : Int32) (a2 : Int32) (a3 : Int32) (r : (Int32 × pS) ⊕ (String × pS)) (hf : F_X9_setNumber S a0 a1 a2 a3 = some r) (hk : Sum.elim (fun q => Q (.inl (some (.int q.1))) q.2.1 q.2.2) (fun q => ∀ n', q.2.1 ≤ n' → Q (.inr q.1) n' (gjunk q.2.2 q.2.1)) r) : gC X mX9_setNumber [.ref a0, .int a1, .int a2, .int a3] S.1 S.2 Q 8 1602 := by
  refine gC_of (by decide) (Nat.le_of_ble_eq_true rfl) rfl ?_
  change gW _ _ _ [some (.ref a0), some (.int a1), some (.int a2), some (.int a3), none, none, none] _ _ _ _ _ _
  unfold F_X9_setNumber at hf
  obtain ⟨_, _, hf⟩ := obind hf
  refine r_aload_n (pc := 0) dX9_setNumber_0 rfl ?_
  refine r_iload_n (pc := 1) dX9_setNumber_1 rfl ?_
  replace hf := obind hf
  obtain ⟨q1, e2, hf⟩ := hf
  rcases q1 with q1 | q1
  · simp only [Sum.elim_inl, Sum.elim_inr] at hf
    refine q_callV (pc := 2) (v := none) (S' := q1) mX9_needItem 9 [.int a1] dX9_setNumber_2 kX9_137 fX9_needItem iX9_needItem ⟨by decide, by decide⟩ rfl rfl rfl (Nat.le_of_ble_eq_true rfl) (og e2) (mc1 := 1) (ms1 := 6) (mc2 := 7) (ms2 := 1596) (by decide) (by decide) (C_X9_needItem S a0 a1 (.inl q1) e2 (qR_mk _ _)) ?_
    refine r_iload_n (pc := 5) dX9_setNumber_5 rfl ?_
    refine r_if_eq (pc := 6) 13 dX9_setNumber_6 (by decide) (fun hc => ?_) (fun hc => ?_)
    · rw [if_pos hc] at hf
      refine r_sipush (pc := 13) (-999 : Int32) dX9_setNumber_13 (by decide) ?_
      refine gW.mono (mc := 7) (ms := 1596) ?_ (fun _ _ _ q => q) (by decide) (by decide)
      exact gW.weak (by simp [gle]) (W_X9_setNumber_16 q1 a0 a1 a2 a3 (-999 : Int32) r hf hk)
    · rw [if_neg hc] at hf
      refine r_iconst (pc := 9) (-1 : Int32) dX9_setNumber_9 (by decide) ?_
      refine r_goto (pc := 10) 16 dX9_setNumber_10 (by decide) ?_
      refine gW.mono (mc := 7) (ms := 1596) ?_ (fun _ _ _ q => q) (by decide) (by decide)
      exact gW.weak (by simp [gle]) (W_X9_setNumber_16 q1 a0 a1 a2 a3 (-1 : Int32) r hf hk)
  · simp only [Sum.elim_inl, Sum.elim_inr] at hf
    refine q_callVt (pc := 2) (E := q1.1) (S' := q1.2) mX9_needItem 9 [.int a1] dX9_setNumber_2 kX9_137 fX9_needItem iX9_needItem ⟨by decide, by decide⟩ rfl rfl rfl (Nat.le_of_ble_eq_true rfl) (og e2) (mc1 := 1) (ms1 := 6) (by decide) (by decide) (C_X9_needItem S a0 a1 (.inr q1) e2 (qX_mk _ _)) ?_
    cases hf
    exact hk
