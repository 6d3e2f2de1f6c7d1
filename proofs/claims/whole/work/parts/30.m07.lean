def F_X9_setFlag_68 (S : pS) (l0 : Nat) (l4 : Int32) : Option ((Int32 × pS) ⊕ (String × pS)) := (F_X9_adoptDraft S l0).bind fun q19 => (oZ l4).bind fun x21 => some (.inl (x21, q19))
set_option maxRecDepth 100000 in
set_option maxHeartbeats 4000000 in
theorem W_X9_setFlag_68 {X : pX} {Q : pO → Nat → pF → Prop} (S : pS) (l0 : Nat) (l4 : Int32) (r : (Int32 × pS) ⊕ (String × pS)) (hf : F_X9_setFlag_68 S l0 l4 = some r) (hk : Sum.elim (fun q => Q (.inl (some (.int q.1))) q.2.1 q.2.2) (fun q => ∀ n', q.2.1 ≤ n' → Q (.inr q.1) n' (gjunk q.2.2 q.2.1)) r) : gW X mX9_setFlag 68 [some (.ref l0), none, none, none, some (.int l4)] [] S.1 S.2 Q 7 1596 := by
  unfold F_X9_setFlag_68 at hf
  refine r_aload_n (pc := 68) dX9_setFlag_68 rfl ?_
  replace hf := obind hf
  obtain ⟨q19, e20, hf⟩ := hf
  refine q_callV (pc := 69) (v := none) (S' := q19) mX9_adoptDraft 9 [] dX9_setFlag_69 kX9_176 fX9_adoptDraft iX9_adoptDraft ⟨by decide, by decide⟩ rfl rfl rfl (Nat.le_of_ble_eq_true rfl) (og e20) (mc1 := 7) (ms1 := 1596) (mc2 := 0) (ms2 := 0) (by decide) (by decide) (C_X9_adoptDraft S l0 q19 e20 (qR_mk _ _)) ?_
  refine r_iload (pc := 72) dX9_setFlag_72 rfl ?_
  replace hf := obind hf
  obtain ⟨x21, e22, hf⟩ := hf
  obtain ⟨e22a, e22b⟩ := oZ_some e22
  rw [e22a] at hf
  refine r_ireturn (pc := 74) .boolean dX9_setFlag_74 rfl e22b ?_
  cases hf
  exact hk
def F_X9_setFlag_26 (S : pS) (l0 : Nat) (l1 : Int32) (l2 : Int32) (l3 : Int32) (t0 : Int64) : Option ((Int32 × pS) ⊕ (String × pS)) := (F_X9_contains S t0 l1).bind fun q7 => (oGA S l0 9 1).bind fun x9 => (oGA S l0 9 0).bind fun x11 => (F_X8_copyFrom S x9 x11).bind fun q13 => if l2 = 0 then ((oGA q13 l0 9 1).bind fun x15 => (F_X8_setDone q13 x15 l1 l3).bind fun q17 => F_X9_setFlag_68 q17 l0 q7) else ((oGA q13 l0 9 1).bind fun x23 => (F_X8_setFolded q13 x23 l1 l3).bind fun q25 => F_X9_setFlag_68 q25 l0 q7)
set_option maxRecDepth 100000 in
set_option maxHeartbeats 4000000 in
theorem W_X9_setFlag_26 {X : pX} {Q : pO → Nat → pF → Prop} (S : pS) (l0 : Nat) (l1 : Int32) (l2 : Int32) (l3 : Int32) (t0 : Int64) (r : (Int32 × pS) ⊕ (String × pS)) (hf : F_X9_setFlag_26 S l0 l1 l2 l3 t0 = some r) (hk : Sum.elim (fun q => Q (.inl (some (.int q.1))) q.2.1 q.2.2) (fun q => ∀ n', q.2.1 ≤ n' → Q (.inr q.1) n' (gjunk q.2.2 q.2.1)) r) : gW X mX9_setFlag 26 [some (.ref l0), some (.int l1), some (.int l2), some (.int l3), none] [.long t0] S.1 S.2 Q 7 1596 := by
  unfold F_X9_setFlag_26 at hf
  refine r_iload_n (pc := 26) dX9_setFlag_26 rfl ?_
  replace hf := obind hf
  obtain ⟨q7, e8, hf⟩ := hf
  refine q_callS (pc := 27) (v := some (.int q7)) (S' := S) mX9_contains [.long t0, .int l1] dX9_setFlag_27 kX9_275 fX9_contains sX9_contains ⟨by decide, by decide⟩ rfl rfl (Nat.le_of_ble_eq_true rfl) (mc1 := 0) (ms1 := 0) (mc2 := 7) (ms2 := 1596) (by decide) (by decide) (C_X9_contains S t0 l1 q7 e8 (qR_mk _ _)) ?_
  change gW _ _ _ _ (.int q7 :: _) _ _ _ _ _
  refine r_istore (pc := 30) dX9_setFlag_30 (by decide) ?_
  change gW _ _ _ [some (.ref l0), some (.int l1), some (.int l2), some (.int l3), some (.int q7)] _ _ _ _ _ _
  refine r_aload_n (pc := 32) dX9_setFlag_32 rfl ?_
  replace hf := obind hf
  obtain ⟨x9, e10, hf⟩ := hf
  refine q_getA (pc := 33) dX9_setFlag_33 gX9_16 e10 ?_
  refine r_aload_n (pc := 36) dX9_setFlag_36 rfl ?_
  replace hf := obind hf
  obtain ⟨x11, e12, hf⟩ := hf
  refine q_getA (pc := 37) dX9_setFlag_37 gX9_12 e12 ?_
  replace hf := obind hf
  obtain ⟨q13, e14, hf⟩ := hf
  refine q_callV (pc := 40) (v := none) (S' := q13) mX8_copyFrom 8 [.ref x11] dX9_setFlag_40 kX9_165 fX8_copyFrom iX8_copyFrom ⟨by decide, by decide⟩ rfl rfl rfl (Nat.le_of_ble_eq_true rfl) (og e14) (mc1 := 0) (ms1 := 0) (mc2 := 7) (ms2 := 1596) (by decide) (by decide) (C_X8_copyFrom S x9 x11 q13 e14 (qR_mk _ _)) ?_
  refine r_iload_n (pc := 43) dX9_setFlag_43 rfl ?_
  refine r_if_eq (pc := 44) 59 dX9_setFlag_44 (by decide) (fun hc => ?_) (fun hc => ?_)
  · rw [if_pos hc] at hf
    refine r_aload_n (pc := 59) dX9_setFlag_59 rfl ?_
    replace hf := obind hf
    obtain ⟨x15, e16, hf⟩ := hf
    refine q_getA (pc := 60) dX9_setFlag_60 gX9_16 e16 ?_
    refine r_iload_n (pc := 63) dX9_setFlag_63 rfl ?_
    refine r_iload_n (pc := 64) dX9_setFlag_64 rfl ?_
    replace hf := obind hf
    obtain ⟨q17, e18, hf⟩ := hf
    refine q_callV (pc := 65) (v := none) (S' := q17) mX8_setDone 8 [.int l1, .int l3] dX9_setFlag_65 kX9_283 fX8_setDone iX8_setDone ⟨by decide, by decide⟩ rfl rfl rfl (Nat.le_of_ble_eq_true rfl) (og e18) (mc1 := 0) (ms1 := 0) (mc2 := 7) (ms2 := 1596) (by decide) (by decide) (C_X8_setDone q13 x15 l1 l3 q17 e18 (qR_mk _ _)) ?_
    refine gW.mono (mc := 7) (ms := 1596) ?_ (fun _ _ _ q => q) (by decide) (by decide)
    exact gW.weak (by simp [gle]) (W_X9_setFlag_68 q17 l0 q7 r hf hk)
  · rw [if_neg hc] at hf
    refine r_aload_n (pc := 47) dX9_setFlag_47 rfl ?_
    replace hf := obind hf
    obtain ⟨x23, e24, hf⟩ := hf
    refine q_getA (pc := 48) dX9_setFlag_48 gX9_16 e24 ?_
    refine r_iload_n (pc := 51) dX9_setFlag_51 rfl ?_
    refine r_iload_n (pc := 52) dX9_setFlag_52 rfl ?_
    replace hf := obind hf
    obtain ⟨q25, e26, hf⟩ := hf
    refine q_callV (pc := 53) (v := none) (S' := q25) mX8_setFolded 8 [.int l1, .int l3] dX9_setFlag_53 kX9_279 fX8_setFolded iX8_setFolded ⟨by decide, by decide⟩ rfl rfl rfl (Nat.le_of_ble_eq_true rfl) (og e26) (mc1 := 0) (ms1 := 0) (mc2 := 7) (ms2 := 1596) (by decide) (by decide) (C_X8_setFolded q13 x23 l1 l3 q25 e26 (qR_mk _ _)) ?_
    refine r_goto (pc := 56) 68 dX9_setFlag_56 (by decide) ?_
    refine gW.mono (mc := 7) (ms := 1596) ?_ (fun _ _ _ q => q) (by decide) (by decide)
    exact gW.weak (by simp [gle]) (W_X9_setFlag_68 q25 l0 q7 r hf hk)
def F_X9_setFlag (S : pS) (a0 : Nat) (a1 : Int32) (a2 : Int32) (a3 : Int32) : Option ((Int32 × pS) ⊕ (String × pS)) := (oF S a0 9).bind fun _ => (F_X9_needItem S a0 a1).bind fun q1 => Sum.elim (fun q1 => if a2 = 0 then ((oGA q1 a0 9 0).bind fun x3 => (F_X8_doneItems q1 x3).bind fun q5 => F_X9_setFlag_26 q1 a0 a1 a2 a3 q5) else ((oGA q1 a0 9 0).bind fun x27 => (F_X8_foldedItems q1 x27).bind fun q29 => F_X9_setFlag_26 q1 a0 a1 a2 a3 q29)) (fun q1 => some (.inr q1)) q1
set_option maxRecDepth 100000 in
set_option maxHeartbeats 4000000 in
theorem C_X9_setFlag {X : pX} {Q : pO → Nat → pF → Prop} (S : pS) (a0 : Nat) (a1 : Int32) (a2 : Int32) (a3 : Int32) (r : (Int32 × pS) ⊕ (String × pS)) (hf : F_X9_setFlag S a0 a1 a2 a3 = some r) (hk : Sum.elim (fun q => Q (.inl (some (.int q.1))) q.2.1 q.2.2) (fun q => ∀ n', q.2.1 ≤ n' → Q (.inr q.1) n' (gjunk q.2.2 q.2.1)) r) : gC X mX9_setFlag [.ref a0, .int a1, .int a2, .int a3] S.1 S.2 Q 8 1602 := by
  refine gC_of (by decide) (Nat.le_of_ble_eq_true rfl) rfl ?_
  change gW _ _ _ [some (.ref a0), some (.int a1), some (.int a2), some (.int a3), none] _ _ _ _ _ _
  unfold F_X9_setFlag at hf
  obtain ⟨_, _, hf⟩ := obind hf
  refine r_aload_n (pc := 0) dX9_setFlag_0 rfl ?_
  refine r_iload_n (pc := 1) dX9_setFlag_1 rfl ?_
  replace hf := obind hf
  obtain ⟨q1, e2, hf⟩ := hf
  rcases q1 with q1 | q1
  · simp only [Sum.elim_inl, Sum.elim_inr] at hf
    refine q_callV (pc := 2) (v := none) (S' := q1) mX9_needItem 9 [.int a1] dX9_setFlag_2 kX9_137 fX9_needItem iX9_needItem ⟨by decide, by decide⟩ rfl rfl rfl (Nat.le_of_ble_eq_true rfl) (og e2) (mc1 := 1) (ms1 := 6) (mc2 := 7) (ms2 := 1596) (by decide) (by decide) (C_X9_needItem S a0 a1 (.inl q1) e2 (qR_mk _ _)) ?_
    refine r_iload_n (pc := 5) dX9_setFlag_5 rfl ?_
    refine r_if_eq (pc := 6) 19 dX9_setFlag_6 (by decide) (fun hc => ?_) (fun hc => ?_)
    · rw [if_pos hc] at hf
      refine r_aload_n (pc := 19) dX9_setFlag_19 rfl ?_
      replace hf := obind hf
      obtain ⟨x3, e4, hf⟩ := hf
      refine q_getA (pc := 20) dX9_setFlag_20 gX9_12 e4 ?_
      replace hf := obind hf
      obtain ⟨q5, e6, hf⟩ := hf
      refine q_callV (pc := 23) (v := some (.long q5)) (S' := q1) mX8_doneItems 8 [] dX9_setFlag_23 kX9_272 fX8_doneItems iX8_doneItems ⟨by decide, by decide⟩ rfl rfl rfl (Nat.le_of_ble_eq_true rfl) (og e6) (mc1 := 0) (ms1 := 0) (mc2 := 7) (ms2 := 1596) (by decide) (by decide) (C_X8_doneItems q1 x3 q5 e6 (qR_mk _ _)) ?_
      change gW _ _ _ _ (.long q5 :: _) _ _ _ _ _
      refine gW.mono (mc := 7) (ms := 1596) ?_ (fun _ _ _ q => q) (by decide) (by decide)
      exact gW.weak (by simp [gle]) (W_X9_setFlag_26 q1 a0 a1 a2 a3 q5 r hf hk)
    · rw [if_neg hc] at hf
      refine r_aload_n (pc := 9) dX9_setFlag_9 rfl ?_
      replace hf := obind hf
      obtain ⟨x27, e28, hf⟩ := hf
      refine q_getA (pc := 10) dX9_setFlag_10 gX9_12 e28 ?_
      replace hf := obind hf
      obtain ⟨q29, e30, hf⟩ := hf
      refine q_callV (pc := 13) (v := some (.long q29)) (S' := q1) mX8_foldedItems 8 [] dX9_setFlag_13 kX9_268 fX8_foldedItems iX8_foldedItems ⟨by decide, by decide⟩ rfl rfl rfl (Nat.le_of_ble_eq_true rfl) (og e30) (mc1 := 0) (ms1 := 0) (mc2 := 7) (ms2 := 1596) (by decide) (by decide) (C_X8_foldedItems q1 x27 q29 e30 (qR_mk _ _)) ?_
      change gW _ _ _ _ (.long q29 :: _) _ _ _ _ _
      refine r_goto (pc := 16) 26 dX9_setFlag_16 (by decide) ?_
      refine gW.mono (mc := 7) (ms := 1596) ?_ (fun _ _ _ q => q) (by decide) (by decide)
      exact gW.weak (by simp [gle]) (W_X9_setFlag_26 q1 a0 a1 a2 a3 q29 r hf hk)
  · simp only [Sum.elim_inl, Sum.elim_inr] at hf
    refine q_callVt (pc := 2) (E := q1.1) (S' := q1.2) mX9_needItem 9 [.int a1] dX9_setFlag_2 kX9_137 fX9_needItem iX9_needItem ⟨by decide, by decide⟩ rfl rfl rfl (Nat.le_of_ble_eq_true rfl) (og e2) (mc1 := 1) (ms1 := 6) (by decide) (by decide) (C_X9_needItem S a0 a1 (.inr q1) e2 (qX_mk _ _)) ?_
    cases hf
    exact hk
def F_X9_countLeaves (S : pS) (a0 : Nat) (a1 : Int32) : Option (Int32) := (oF S a0 9).bind fun _ => (oGA S a0 9 3).bind fun x1 => (F_X6_familyOf S x1 a1).bind fun q3 => (oGA S a0 9 0).bind fun x5 => (F_X8_leafItems S x5).bind fun q7 => (F_J13_bitCount_95d88 S (q3 &&& q7)).bind fun q9 => some q9
set_option maxRecDepth 100000 in
set_option maxHeartbeats 4000000 in
theorem C_X9_countLeaves {X : pX} {Q : pO → Nat → pF → Prop} (S : pS) (a0 : Nat) (a1 : Int32) (r : Int32) (hf : F_X9_countLeaves S a0 a1 = some r) (hk : Q (.inl (some (.int r))) S.1 S.2) : gC X mX9_countLeaves [.ref a0, .int a1] S.1 S.2 Q 0 0 := by
  refine gC_of (by decide) (Nat.le_of_ble_eq_true rfl) rfl ?_
  change gW _ _ _ [some (.ref a0), some (.int a1)] _ _ _ _ _ _
  unfold F_X9_countLeaves at hf
  obtain ⟨_, _, hf⟩ := obind hf
  refine r_aload_n (pc := 0) dX9_countLeaves_0 rfl ?_
  replace hf := obind hf
  obtain ⟨x1, e2, hf⟩ := hf
  refine q_getA (pc := 1) dX9_countLeaves_1 gX9_25 e2 ?_
  refine r_iload_n (pc := 4) dX9_countLeaves_4 rfl ?_
  replace hf := obind hf
  obtain ⟨q3, e4, hf⟩ := hf
  refine q_callV (pc := 5) (v := some (.long q3)) (S' := S) mX6_familyOf 6 [.int a1] dX9_countLeaves_5 kX9_198 fX6_familyOf iX6_familyOf ⟨by decide, by decide⟩ rfl rfl rfl (Nat.le_of_ble_eq_true rfl) (og e4) (mc1 := 0) (ms1 := 0) (mc2 := 0) (ms2 := 0) (by decide) (by decide) (C_X6_familyOf S x1 a1 q3 e4 (qR_mk _ _)) ?_
  change gW _ _ _ _ (.long q3 :: _) _ _ _ _ _
  refine r_aload_n (pc := 8) dX9_countLeaves_8 rfl ?_
  replace hf := obind hf
  obtain ⟨x5, e6, hf⟩ := hf
  refine q_getA (pc := 9) dX9_countLeaves_9 gX9_12 e6 ?_
  replace hf := obind hf
  obtain ⟨q7, e8, hf⟩ := hf
  refine q_callV (pc := 12) (v := some (.long q7)) (S' := S) mX8_leafItems 8 [] dX9_countLeaves_12 kX9_450 fX8_leafItems iX8_leafItems ⟨by decide, by decide⟩ rfl rfl rfl (Nat.le_of_ble_eq_true rfl) (og e8) (mc1 := 0) (ms1 := 0) (mc2 := 0) (ms2 := 0) (by decide) (by decide) (C_X8_leafItems S x5 q7 e8 (qR_mk _ _)) ?_
  change gW _ _ _ _ (.long q7 :: _) _ _ _ _ _
  refine r_land (pc := 15) dX9_countLeaves_15 ?_
  replace hf := obind hf
  obtain ⟨q9, e10, hf⟩ := hf
  refine q_callS (pc := 16) (v := some (.int q9)) (S' := S) mJ13_bitCount_95d88 [.long (q3 &&& q7)] dX9_countLeaves_16 kX9_289 fJ13_bitCount_95d88 sJ13_bitCount_95d88 ⟨by decide, by decide⟩ rfl rfl (Nat.le_of_ble_eq_true rfl) (mc1 := 0) (ms1 := 0) (mc2 := 0) (ms2 := 0) (by decide) (by decide) (C_J13_bitCount_95d88 S (q3 &&& q7) q9 e10 (qR_mk _ _)) ?_
  change gW _ _ _ _ (.int q9 :: _) _ _ _ _ _
  refine r_ireturn (pc := 19) .int dX9_countLeaves_19 rfl rfl ?_
  cases hf
  exact hk
def F_X9_countDoneLeaves (S : pS) (a0 : Nat) (a1 : Int32) : Option (Int32) := (oF S a0 9).bind fun _ => (oGA S a0 9 3).bind fun x1 => (F_X6_familyOf S x1 a1).bind fun q3 => (oGA S a0 9 0).bind fun x5 => (F_X8_leafItems S x5).bind fun q7 => (oGA S a0 9 0).bind fun x9 => (F_X8_doneItems S x9).bind fun q11 => (F_J13_bitCount_95d88 S ((q3 &&& q7) &&& q11)).bind fun q13 => some q13
set_option maxRecDepth 100000 in
set_option maxHeartbeats 4000000 in
theorem C_X9_countDoneLeaves {X : pX} {Q : pO → Nat → pF → Prop} (S : pS) (a0 : Nat) (a1 : Int32) (r : Int32) (hf : F_X9_countDoneLeaves S a0 a1 = some r) (hk : Q (.inl (some (.int r))) S.1 S.2) : gC X mX9_countDoneLeaves [.ref a0, .int a1] S.1 S.2 Q 0 0 := by
  refine gC_of (by decide) (Nat.le_of_ble_eq_true rfl) rfl ?_
  change gW _ _ _ [some (.ref a0), some (.int a1)] _ _ _ _ _ _
  unfold F_X9_countDoneLeaves at hf
  obtain ⟨_, _, hf⟩ := obind hf
  refine r_aload_n (pc := 0) dX9_countDoneLeaves_0 rfl ?_
  replace hf := obind hf
  obtain ⟨x1, e2, hf⟩ := hf
  refine q_getA (pc := 1) dX9_countDoneLeaves_1 gX9_25 e2 ?_
  refine r_iload_n (pc := 4) dX9_countDoneLeaves_4 rfl ?_
  replace hf := obind hf
  obtain ⟨q3, e4, hf⟩ := hf
  refine q_callV (pc := 5) (v := some (.long q3)) (S' := S) mX6_familyOf 6 [.int a1] dX9_countDoneLeaves_5 kX9_198 fX6_familyOf iX6_familyOf ⟨by decide, by decide⟩ rfl rfl rfl (Nat.le_of_ble_eq_true rfl) (og e4) (mc1 := 0) (ms1 := 0) (mc2 := 0) (ms2 := 0) (by decide) (by decide) (C_X6_familyOf S x1 a1 q3 e4 (qR_mk _ _)) ?_
  change gW _ _ _ _ (.long q3 :: _) _ _ _ _ _
  refine r_aload_n (pc := 8) dX9_countDoneLeaves_8 rfl ?_
  replace hf := obind hf
  obtain ⟨x5, e6, hf⟩ := hf
  refine q_getA (pc := 9) dX9_countDoneLeaves_9 gX9_12 e6 ?_
  replace hf := obind hf
  obtain ⟨q7, e8, hf⟩ := hf
  refine q_callV (pc := 12) (v := some (.long q7)) (S' := S) mX8_leafItems 8 [] dX9_countDoneLeaves_12 kX9_450 fX8_leafItems iX8_leafItems ⟨by decide, by decide⟩ rfl rfl rfl (Nat.le_of_ble_eq_true rfl) (og e8) (mc1 := 0) (ms1 := 0) (mc2 := 0) (ms2 := 0) (by decide) (by decide) (C_X8_leafItems S x5 q7 e8 (qR_mk _ _)) ?_
  change gW _ _ _ _ (.long q7 :: _) _ _ _ _ _
  refine r_land (pc := 15) dX9_countDoneLeaves_15 ?_
  refine r_aload_n (pc := 16) dX9_countDoneLeaves_16 rfl ?_
  replace hf := obind hf
  obtain ⟨x9, e10, hf⟩ := hf
  refine q_getA (pc := 17) dX9_countDoneLeaves_17 gX9_12 e10 ?_
  replace hf := obind hf
  obtain ⟨q11, e12, hf⟩ := hf
  refine q_callV (pc := 20) (v := some (.long q11)) (S' := S) mX8_doneItems 8 [] dX9_countDoneLeaves_20 kX9_272 fX8_doneItems iX8_doneItems ⟨by decide, by decide⟩ rfl rfl rfl (Nat.le_of_ble_eq_true rfl) (og e12) (mc1 := 0) (ms1 := 0) (mc2 := 0) (ms2 := 0) (by decide) (by decide) (C_X8_doneItems S x9 q11 e12 (qR_mk _ _)) ?_
  change gW _ _ _ _ (.long q11 :: _) _ _ _ _ _
  refine r_land (pc := 23) dX9_countDoneLeaves_23 ?_
  replace hf := obind hf
  obtain ⟨q13, e14, hf⟩ := hf
  refine q_callS (pc := 24) (v := some (.int q13)) (S' := S) mJ13_bitCount_95d88 [.long ((q3 &&& q7) &&& q11)] dX9_countDoneLeaves_24 kX9_289 fJ13_bitCount_95d88 sJ13_bitCount_95d88 ⟨by decide, by decide⟩ rfl rfl (Nat.le_of_ble_eq_true rfl) (mc1 := 0) (ms1 := 0) (mc2 := 0) (ms2 := 0) (by decide) (by decide) (C_J13_bitCount_95d88 S ((q3 &&& q7) &&& q11) q13 e14 (qR_mk _ _)) ?_
  change gW _ _ _ _ (.int q13 :: _) _ _ _ _ _
  refine r_ireturn (pc := 27) .int dX9_countDoneLeaves_27 rfl rfl ?_
  cases hf
  exact hk
def F_X9_item (S : pS) (a0 : Nat) (a1 : Int32) (a2 : Int32) : Option ((Int32 × pS) ⊕ (String × pS)) := (oF S a0 9).bind fun _ => (F_X9_needItem S a0 a1).bind fun q1 => Sum.elim (fun q1 => if a2 = (0 : Int32) then ((oGA q1 a0 9 3).bind fun x3 => (F_X6_parentsOf q1 x3 a1).bind fun q5 => some (.inl (q5, q1))) else if a2 = (1 : Int32) then ((oGA q1 a0 9 0).bind fun x7 => (F_X8_childCount q1 x7 a1).bind fun q9 => some (.inl (q9, q1))) else if a2 = (2 : Int32) then ((oGA q1 a0 9 3).bind fun x11 => (F_X6_placesOf q1 x11 a1).bind fun q13 => some (.inl (q13, q1))) else if a2 = (3 : Int32) then ((oGA q1 a0 9 0).bind fun x15 => (F_X8_nameLength q1 x15 a1).bind fun q17 => some (.inl (q17, q1))) else if a2 = (4 : Int32) then ((oGA q1 a0 9 0).bind fun x19 => (F_X8_valueOf q1 x19 a1).bind fun q21 => some (.inl (q21, q1))) else if a2 = (5 : Int32) then ((oGA q1 a0 9 0).bind fun x23 => (F_X8_dayOf q1 x23 a1).bind fun q25 => some (.inl (q25, q1))) else if a2 = (6 : Int32) then ((oGA q1 a0 9 0).bind fun x27 => (F_X8_doneItems q1 x27).bind fun q29 => (F_X9_contains q1 q29 a1).bind fun q31 => if q31 = 0 then (some (.inl ((0 : Int32), q1))) else (some (.inl ((1 : Int32), q1)))) else if a2 = (7 : Int32) then ((oGA q1 a0 9 0).bind fun x33 => (F_X8_foldedItems q1 x33).bind fun q35 => (F_X9_contains q1 q35 a1).bind fun q37 => if q37 = 0 then (some (.inl ((0 : Int32), q1))) else (some (.inl ((1 : Int32), q1)))) else if a2 = (8 : Int32) then ((oGA q1 a0 9 3).bind fun x39 => (F_X6_familyOf q1 x39 a1).bind fun q41 => (F_J13_bitCount_95d88 q1 q41).bind fun q43 => some (.inl (q43, q1))) else if a2 = (9 : Int32) then ((oGA q1 a0 9 0).bind fun x45 => (oGA q1 a0 9 3).bind fun x47 => (F_X6_familyOf q1 x47 a1).bind fun q49 => (F_X8_sumOf q1 x45 q49).bind fun q51 => some (.inl (q51, q1))) else if a2 = (10 : Int32) then ((oGA q1 a0 9 0).bind fun x53 => (oGA q1 a0 9 3).bind fun x55 => (F_X6_familyOf q1 x55 a1).bind fun q57 => (F_X8_earliestDay q1 x53 q57).bind fun q59 => some (.inl (q59, q1))) else if a2 = (11 : Int32) then ((oGA q1 a0 9 0).bind fun x61 => (oGA q1 a0 9 3).bind fun x63 => (F_X6_familyOf q1 x63 a1).bind fun q65 => (F_X8_latestDay q1 x61 q65).bind fun q67 => some (.inl (q67, q1))) else if a2 = (12 : Int32) then ((F_X9_countLeaves q1 a0 a1).bind fun q69 => some (.inl (q69, q1))) else if a2 = (13 : Int32) then ((F_X9_countDoneLeaves q1 a0 a1).bind fun q71 => some (.inl (q71, q1))) else if a2 = (14 : Int32) then ((oGA q1 a0 9 3).bind fun x73 => (F_X6_placesBelow q1 x73 a1).bind fun q75 => some (.inl (q75, q1))) else (some (.inr ("java/lang/IllegalArgumentException", q1)))) (fun q1 => some (.inr q1)) q1
set_option maxRecDepth 100000 in
set_option maxHeartbeats 4000000 in
theorem C_X9_item {X : pX} {Q : pO → Nat → pF → Prop} (S : pS) (a0 : Nat) (a1 : Int32) (a2 : Int32) (r : (Int32 × pS) ⊕ (String × pS)) (hf : F_X9_item S a0 a1 a2 = some r) (hk : Sum.elim (fun q => Q (.inl (some (.int q.1))) q.2.1 q.2.2) (fun q => ∀ n', q.2.1 ≤ n' → Q (.inr q.1) n' (gjunk q.2.2 q.2.1)) r) : gC X mX9_item [.ref a0, .int a1, .int a2] S.1 S.2 Q 2 12 := by
  refine gC_of (by decide) (Nat.le_of_ble_eq_true rfl) rfl ?_
  change gW _ _ _ [some (.ref a0), some (.int a1), some (.int a2)] _ _ _ _ _ _
  unfold F_X9_item at hf
  obtain ⟨_, _, hf⟩ := obind hf
  refine r_aload_n (pc := 0) dX9_item_0 rfl ?_
  refine r_iload_n (pc := 1) dX9_item_1 rfl ?_
  replace hf := obind hf
  obtain ⟨q1, e2, hf⟩ := hf
  rcases q1 with q1 | q1
  · simp only [Sum.elim_inl, Sum.elim_inr] at hf
    refine q_callV (pc := 2) (v := none) (S' := q1) mX9_needItem 9 [.int a1] dX9_item_2 kX9_137 fX9_needItem iX9_needItem ⟨by decide, by decide⟩ rfl rfl rfl (Nat.le_of_ble_eq_true rfl) (og e2) (mc1 := 1) (ms1 := 6) (mc2 := 1) (ms2 := 6) (by decide) (by decide) (C_X9_needItem S a0 a1 (.inl q1) e2 (qR_mk _ _)) ?_
    refine r_iload_n (pc := 5) dX9_item_5 rfl ?_
    by_cases hc0 : a2 = (0 : Int32)
    · rw [if_pos hc0] at hf
      refine r_tableIn (pc := 6) 80 dX9_item_6 (by rw [hc0]; decide) (by rw [hc0]; decide) (off := 74) (by rw [hc0]; rfl) (by decide) ?_
      refine r_aload_n (pc := 80) dX9_item_80 rfl ?_
      replace hf := obind hf
      obtain ⟨x3, e4, hf⟩ := hf
      refine q_getA (pc := 81) dX9_item_81 gX9_25 e4 ?_
      refine r_iload_n (pc := 84) dX9_item_84 rfl ?_
      replace hf := obind hf
      obtain ⟨q5, e6, hf⟩ := hf
      refine q_callV (pc := 85) (v := some (.int q5)) (S' := q1) mX6_parentsOf 6 [.int a1] dX9_item_85 kX9_286 fX6_parentsOf iX6_parentsOf ⟨by decide, by decide⟩ rfl rfl rfl (Nat.le_of_ble_eq_true rfl) (og e6) (mc1 := 0) (ms1 := 0) (mc2 := 0) (ms2 := 0) (by decide) (by decide) (C_X6_parentsOf q1 x3 a1 q5 e6 (qR_mk _ _)) ?_
      change gW _ _ _ _ (.int q5 :: _) _ _ _ _ _
      refine r_ireturn (pc := 88) .int dX9_item_88 rfl rfl ?_
      cases hf
      exact hk
    rw [if_neg hc0] at hf
    by_cases hc1 : a2 = (1 : Int32)
    · rw [if_pos hc1] at hf
      refine r_tableIn (pc := 6) 89 dX9_item_6 (by rw [hc1]; decide) (by rw [hc1]; decide) (off := 83) (by rw [hc1]; rfl) (by decide) ?_
      refine r_aload_n (pc := 89) dX9_item_89 rfl ?_
      replace hf := obind hf
      obtain ⟨x7, e8, hf⟩ := hf
      refine q_getA (pc := 90) dX9_item_90 gX9_12 e8 ?_
      refine r_iload_n (pc := 93) dX9_item_93 rfl ?_
      replace hf := obind hf
      obtain ⟨q9, e10, hf⟩ := hf
      refine q_callV (pc := 94) (v := some (.int q9)) (S' := q1) mX8_childCount 8 [.int a1] dX9_item_94 kX9_141 fX8_childCount iX8_childCount ⟨by decide, by decide⟩ rfl rfl rfl (Nat.le_of_ble_eq_true rfl) (og e10) (mc1 := 0) (ms1 := 0) (mc2 := 0) (ms2 := 0) (by decide) (by decide) (C_X8_childCount q1 x7 a1 q9 e10 (qR_mk _ _)) ?_
      change gW _ _ _ _ (.int q9 :: _) _ _ _ _ _
      refine r_ireturn (pc := 97) .int dX9_item_97 rfl rfl ?_
      cases hf
      exact hk
    rw [if_neg hc1] at hf
    by_cases hc2 : a2 = (2 : Int32)
    · rw [if_pos hc2] at hf
      refine r_tableIn (pc := 6) 98 dX9_item_6 (by rw [hc2]; decide) (by rw [hc2]; decide) (off := 92) (by rw [hc2]; rfl) (by decide) ?_
      refine r_aload_n (pc := 98) dX9_item_98 rfl ?_
      replace hf := obind hf
      obtain ⟨x11, e12, hf⟩ := hf
      refine q_getA (pc := 99) dX9_item_99 gX9_25 e12 ?_
      refine r_iload_n (pc := 102) dX9_item_102 rfl ?_
      replace hf := obind hf
      obtain ⟨q13, e14, hf⟩ := hf
      refine q_callV (pc := 103) (v := some (.int q13)) (S' := q1) mX6_placesOf 6 [.int a1] dX9_item_103 kX9_186 fX6_placesOf iX6_placesOf ⟨by decide, by decide⟩ rfl rfl rfl (Nat.le_of_ble_eq_true rfl) (og e14) (mc1 := 0) (ms1 := 0) (mc2 := 0) (ms2 := 0) (by decide) (by decide) (C_X6_placesOf q1 x11 a1 q13 e14 (qR_mk _ _)) ?_
      change gW _ _ _ _ (.int q13 :: _) _ _ _ _ _
      refine r_ireturn (pc := 106) .int dX9_item_106 rfl rfl ?_
      cases hf
      exact hk
    rw [if_neg hc2] at hf
    by_cases hc3 : a2 = (3 : Int32)
    · rw [if_pos hc3] at hf
      refine r_tableIn (pc := 6) 107 dX9_item_6 (by rw [hc3]; decide) (by rw [hc3]; decide) (off := 101) (by rw [hc3]; rfl) (by decide) ?_
      refine r_aload_n (pc := 107) dX9_item_107 rfl ?_
      replace hf := obind hf
      obtain ⟨x15, e16, hf⟩ := hf
      refine q_getA (pc := 108) dX9_item_108 gX9_12 e16 ?_
      refine r_iload_n (pc := 111) dX9_item_111 rfl ?_
      replace hf := obind hf
      obtain ⟨q17, e18, hf⟩ := hf
      refine q_callV (pc := 112) (v := some (.int q17)) (S' := q1) mX8_nameLength 8 [.int a1] dX9_item_112 kX9_247 fX8_nameLength iX8_nameLength ⟨by decide, by decide⟩ rfl rfl rfl (Nat.le_of_ble_eq_true rfl) (og e18) (mc1 := 0) (ms1 := 0) (mc2 := 0) (ms2 := 0) (by decide) (by decide) (C_X8_nameLength q1 x15 a1 q17 e18 (qR_mk _ _)) ?_
      change gW _ _ _ _ (.int q17 :: _) _ _ _ _ _
      refine r_ireturn (pc := 115) .int dX9_item_115 rfl rfl ?_
      cases hf
      exact hk
    rw [if_neg hc3] at hf
    by_cases hc4 : a2 = (4 : Int32)
    · rw [if_pos hc4] at hf
      refine r_tableIn (pc := 6) 116 dX9_item_6 (by rw [hc4]; decide) (by rw [hc4]; decide) (off := 110) (by rw [hc4]; rfl) (by decide) ?_
      refine r_aload_n (pc := 116) dX9_item_116 rfl ?_
      replace hf := obind hf
      obtain ⟨x19, e20, hf⟩ := hf
      refine q_getA (pc := 117) dX9_item_117 gX9_12 e20 ?_
      refine r_iload_n (pc := 120) dX9_item_120 rfl ?_
      replace hf := obind hf
      obtain ⟨q21, e22, hf⟩ := hf
      refine q_callV (pc := 121) (v := some (.int q21)) (S' := q1) mX8_valueOf 8 [.int a1] dX9_item_121 kX9_259 fX8_valueOf iX8_valueOf ⟨by decide, by decide⟩ rfl rfl rfl (Nat.le_of_ble_eq_true rfl) (og e22) (mc1 := 0) (ms1 := 0) (mc2 := 0) (ms2 := 0) (by decide) (by decide) (C_X8_valueOf q1 x19 a1 q21 e22 (qR_mk _ _)) ?_
      change gW _ _ _ _ (.int q21 :: _) _ _ _ _ _
      refine r_ireturn (pc := 124) .int dX9_item_124 rfl rfl ?_
      cases hf
      exact hk
    rw [if_neg hc4] at hf
    by_cases hc5 : a2 = (5 : Int32)
    · rw [if_pos hc5] at hf
      refine r_tableIn (pc := 6) 125 dX9_item_6 (by rw [hc5]; decide) (by rw [hc5]; decide) (off := 119) (by rw [hc5]; rfl) (by decide) ?_
      refine r_aload_n (pc := 125) dX9_item_125 rfl ?_
      replace hf := obind hf
      obtain ⟨x23, e24, hf⟩ := hf
      refine q_getA (pc := 126) dX9_item_126 gX9_12 e24 ?_
      refine r_iload_n (pc := 129) dX9_item_129 rfl ?_
      replace hf := obind hf
      obtain ⟨q25, e26, hf⟩ := hf
      refine q_callV (pc := 130) (v := some (.int q25)) (S' := q1) mX8_dayOf 8 [.int a1] dX9_item_130 kX9_256 fX8_dayOf iX8_dayOf ⟨by decide, by decide⟩ rfl rfl rfl (Nat.le_of_ble_eq_true rfl) (og e26) (mc1 := 0) (ms1 := 0) (mc2 := 0) (ms2 := 0) (by decide) (by decide) (C_X8_dayOf q1 x23 a1 q25 e26 (qR_mk _ _)) ?_
      change gW _ _ _ _ (.int q25 :: _) _ _ _ _ _
      refine r_ireturn (pc := 133) .int dX9_item_133 rfl rfl ?_
      cases hf
      exact hk
    rw [if_neg hc5] at hf
    by_cases hc6 : a2 = (6 : Int32)
    · rw [if_pos hc6] at hf
      refine r_tableIn (pc := 6) 134 dX9_item_6 (by rw [hc6]; decide) (by rw [hc6]; decide) (off := 128) (by rw [hc6]; rfl) (by decide) ?_
      refine r_aload_n (pc := 134) dX9_item_134 rfl ?_
      replace hf := obind hf
      obtain ⟨x27, e28, hf⟩ := hf
      refine q_getA (pc := 135) dX9_item_135 gX9_12 e28 ?_
      replace hf := obind hf
      obtain ⟨q29, e30, hf⟩ := hf
      refine q_callV (pc := 138) (v := some (.long q29)) (S' := q1) mX8_doneItems 8 [] dX9_item_138 kX9_272 fX8_doneItems iX8_doneItems ⟨by decide, by decide⟩ rfl rfl rfl (Nat.le_of_ble_eq_true rfl) (og e30) (mc1 := 0) (ms1 := 0) (mc2 := 0) (ms2 := 0) (by decide) (by decide) (C_X8_doneItems q1 x27 q29 e30 (qR_mk _ _)) ?_
      change gW _ _ _ _ (.long q29 :: _) _ _ _ _ _
      refine r_iload_n (pc := 141) dX9_item_141 rfl ?_
      replace hf := obind hf
      obtain ⟨q31, e32, hf⟩ := hf
      refine q_callS (pc := 142) (v := some (.int q31)) (S' := q1) mX9_contains [.long q29, .int a1] dX9_item_142 kX9_275 fX9_contains sX9_contains ⟨by decide, by decide⟩ rfl rfl (Nat.le_of_ble_eq_true rfl) (mc1 := 0) (ms1 := 0) (mc2 := 0) (ms2 := 0) (by decide) (by decide) (C_X9_contains q1 q29 a1 q31 e32 (qR_mk _ _)) ?_
      change gW _ _ _ _ (.int q31 :: _) _ _ _ _ _
      refine r_if_eq (pc := 145) 152 dX9_item_145 (by decide) (fun hc => ?_) (fun hc => ?_)
      · rw [if_pos hc] at hf
        refine r_iconst (pc := 152) (0 : Int32) dX9_item_152 (by decide) ?_
        refine r_ireturn (pc := 153) .int dX9_item_153 rfl rfl ?_
        cases hf
        exact hk
      · rw [if_neg hc] at hf
        refine r_iconst (pc := 148) (1 : Int32) dX9_item_148 (by decide) ?_
        refine r_goto (pc := 149) 153 dX9_item_149 (by decide) ?_
        refine r_ireturn (pc := 153) .int dX9_item_153 rfl rfl ?_
        cases hf
        exact hk
    rw [if_neg hc6] at hf
    by_cases hc7 : a2 = (7 : Int32)
    · rw [if_pos hc7] at hf
      refine r_tableIn (pc := 6) 154 dX9_item_6 (by rw [hc7]; decide) (by rw [hc7]; decide) (off := 148) (by rw [hc7]; rfl) (by decide) ?_
      refine r_aload_n (pc := 154) dX9_item_154 rfl ?_
      replace hf := obind hf
      obtain ⟨x33, e34, hf⟩ := hf
      refine q_getA (pc := 155) dX9_item_155 gX9_12 e34 ?_
      replace hf := obind hf
      obtain ⟨q35, e36, hf⟩ := hf
      refine q_callV (pc := 158) (v := some (.long q35)) (S' := q1) mX8_foldedItems 8 [] dX9_item_158 kX9_268 fX8_foldedItems iX8_foldedItems ⟨by decide, by decide⟩ rfl rfl rfl (Nat.le_of_ble_eq_true rfl) (og e36) (mc1 := 0) (ms1 := 0) (mc2 := 0) (ms2 := 0) (by decide) (by decide) (C_X8_foldedItems q1 x33 q35 e36 (qR_mk _ _)) ?_
      change gW _ _ _ _ (.long q35 :: _) _ _ _ _ _
      refine r_iload_n (pc := 161) dX9_item_161 rfl ?_
      replace hf := obind hf
      obtain ⟨q37, e38, hf⟩ := hf
      refine q_callS (pc := 162) (v := some (.int q37)) (S' := q1) mX9_contains [.long q35, .int a1] dX9_item_162 kX9_275 fX9_contains sX9_contains ⟨by decide, by decide⟩ rfl rfl (Nat.le_of_ble_eq_true rfl) (mc1 := 0) (ms1 := 0) (mc2 := 0) (ms2 := 0) (by decide) (by decide) (C_X9_contains q1 q35 a1 q37 e38 (qR_mk _ _)) ?_
      change gW _ _ _ _ (.int q37 :: _) _ _ _ _ _
      refine r_if_eq (pc := 165) 172 dX9_item_165 (by decide) (fun hc => ?_) (fun hc => ?_)
      · rw [if_pos hc] at hf
        refine r_iconst (pc := 172) (0 : Int32) dX9_item_172 (by decide) ?_
        refine r_ireturn (pc := 173) .int dX9_item_173 rfl rfl ?_
        cases hf
        exact hk
      · rw [if_neg hc] at hf
        refine r_iconst (pc := 168) (1 : Int32) dX9_item_168 (by decide) ?_
        refine r_goto (pc := 169) 173 dX9_item_169 (by decide) ?_
        refine r_ireturn (pc := 173) .int dX9_item_173 rfl rfl ?_
        cases hf
        exact hk
    rw [if_neg hc7] at hf
    by_cases hc8 : a2 = (8 : Int32)
    · rw [if_pos hc8] at hf
      refine r_tableIn (pc := 6) 174 dX9_item_6 (by rw [hc8]; decide) (by rw [hc8]; decide) (off := 168) (by rw [hc8]; rfl) (by decide) ?_
      refine r_aload_n (pc := 174) dX9_item_174 rfl ?_
      replace hf := obind hf
      obtain ⟨x39, e40, hf⟩ := hf
      refine q_getA (pc := 175) dX9_item_175 gX9_25 e40 ?_
      refine r_iload_n (pc := 178) dX9_item_178 rfl ?_
      replace hf := obind hf
      obtain ⟨q41, e42, hf⟩ := hf
      refine q_callV (pc := 179) (v := some (.long q41)) (S' := q1) mX6_familyOf 6 [.int a1] dX9_item_179 kX9_198 fX6_familyOf iX6_familyOf ⟨by decide, by decide⟩ rfl rfl rfl (Nat.le_of_ble_eq_true rfl) (og e42) (mc1 := 0) (ms1 := 0) (mc2 := 0) (ms2 := 0) (by decide) (by decide) (C_X6_familyOf q1 x39 a1 q41 e42 (qR_mk _ _)) ?_
      change gW _ _ _ _ (.long q41 :: _) _ _ _ _ _
      replace hf := obind hf
      obtain ⟨q43, e44, hf⟩ := hf
      refine q_callS (pc := 182) (v := some (.int q43)) (S' := q1) mJ13_bitCount_95d88 [.long q41] dX9_item_182 kX9_289 fJ13_bitCount_95d88 sJ13_bitCount_95d88 ⟨by decide, by decide⟩ rfl rfl (Nat.le_of_ble_eq_true rfl) (mc1 := 0) (ms1 := 0) (mc2 := 0) (ms2 := 0) (by decide) (by decide) (C_J13_bitCount_95d88 q1 q41 q43 e44 (qR_mk _ _)) ?_
      change gW _ _ _ _ (.int q43 :: _) _ _ _ _ _
      refine r_ireturn (pc := 185) .int dX9_item_185 rfl rfl ?_
      cases hf
      exact hk
    rw [if_neg hc8] at hf
    by_cases hc9 : a2 = (9 : Int32)
    · rw [if_pos hc9] at hf
      refine r_tableIn (pc := 6) 186 dX9_item_6 (by rw [hc9]; decide) (by rw [hc9]; decide) (off := 180) (by rw [hc9]; rfl) (by decide) ?_
      refine r_aload_n (pc := 186) dX9_item_186 rfl ?_
      replace hf := obind hf
      obtain ⟨x45, e46, hf⟩ := hf
      refine q_getA (pc := 187) dX9_item_187 gX9_12 e46 ?_
      refine r_aload_n (pc := 190) dX9_item_190 rfl ?_
      replace hf := obind hf
      obtain ⟨x47, e48, hf⟩ := hf
      refine q_getA (pc := 191) dX9_item_191 gX9_25 e48 ?_
      refine r_iload_n (pc := 194) dX9_item_194 rfl ?_
      replace hf := obind hf
      obtain ⟨q49, e50, hf⟩ := hf
      refine q_callV (pc := 195) (v := some (.long q49)) (S' := q1) mX6_familyOf 6 [.int a1] dX9_item_195 kX9_198 fX6_familyOf iX6_familyOf ⟨by decide, by decide⟩ rfl rfl rfl (Nat.le_of_ble_eq_true rfl) (og e50) (mc1 := 0) (ms1 := 0) (mc2 := 0) (ms2 := 0) (by decide) (by decide) (C_X6_familyOf q1 x47 a1 q49 e50 (qR_mk _ _)) ?_
      change gW _ _ _ _ (.long q49 :: _) _ _ _ _ _
      replace hf := obind hf
      obtain ⟨q51, e52, hf⟩ := hf
      refine q_callV (pc := 198) (v := some (.int q51)) (S' := q1) mX8_sumOf 8 [.long q49] dX9_item_198 kX9_294 fX8_sumOf iX8_sumOf ⟨by decide, by decide⟩ rfl rfl rfl (Nat.le_of_ble_eq_true rfl) (og e52) (mc1 := 0) (ms1 := 0) (mc2 := 0) (ms2 := 0) (by decide) (by decide) (C_X8_sumOf q1 x45 q49 q51 e52 (qR_mk _ _)) ?_
      change gW _ _ _ _ (.int q51 :: _) _ _ _ _ _
      refine r_ireturn (pc := 201) .int dX9_item_201 rfl rfl ?_
      cases hf
      exact hk
    rw [if_neg hc9] at hf
    by_cases hc10 : a2 = (10 : Int32)
    · rw [if_pos hc10] at hf
      refine r_tableIn (pc := 6) 202 dX9_item_6 (by rw [hc10]; decide) (by rw [hc10]; decide) (off := 196) (by rw [hc10]; rfl) (by decide) ?_
      refine r_aload_n (pc := 202) dX9_item_202 rfl ?_
      replace hf := obind hf
      obtain ⟨x53, e54, hf⟩ := hf
      refine q_getA (pc := 203) dX9_item_203 gX9_12 e54 ?_
      refine r_aload_n (pc := 206) dX9_item_206 rfl ?_
      replace hf := obind hf
      obtain ⟨x55, e56, hf⟩ := hf
      refine q_getA (pc := 207) dX9_item_207 gX9_25 e56 ?_
      refine r_iload_n (pc := 210) dX9_item_210 rfl ?_
      replace hf := obind hf
      obtain ⟨q57, e58, hf⟩ := hf
      refine q_callV (pc := 211) (v := some (.long q57)) (S' := q1) mX6_familyOf 6 [.int a1] dX9_item_211 kX9_198 fX6_familyOf iX6_familyOf ⟨by decide, by decide⟩ rfl rfl rfl (Nat.le_of_ble_eq_true rfl) (og e58) (mc1 := 0) (ms1 := 0) (mc2 := 0) (ms2 := 0) (by decide) (by decide) (C_X6_familyOf q1 x55 a1 q57 e58 (qR_mk _ _)) ?_
      change gW _ _ _ _ (.long q57 :: _) _ _ _ _ _
      replace hf := obind hf
      obtain ⟨q59, e60, hf⟩ := hf
      refine q_callV (pc := 214) (v := some (.int q59)) (S' := q1) mX8_earliestDay 8 [.long q57] dX9_item_214 kX9_297 fX8_earliestDay iX8_earliestDay ⟨by decide, by decide⟩ rfl rfl rfl (Nat.le_of_ble_eq_true rfl) (og e60) (mc1 := 0) (ms1 := 0) (mc2 := 0) (ms2 := 0) (by decide) (by decide) (C_X8_earliestDay q1 x53 q57 q59 e60 (qR_mk _ _)) ?_
      change gW _ _ _ _ (.int q59 :: _) _ _ _ _ _
      refine r_ireturn (pc := 217) .int dX9_item_217 rfl rfl ?_
      cases hf
      exact hk
    rw [if_neg hc10] at hf
    by_cases hc11 : a2 = (11 : Int32)
    · rw [if_pos hc11] at hf
      refine r_tableIn (pc := 6) 218 dX9_item_6 (by rw [hc11]; decide) (by rw [hc11]; decide) (off := 212) (by rw [hc11]; rfl) (by decide) ?_
      refine r_aload_n (pc := 218) dX9_item_218 rfl ?_
      replace hf := obind hf
      obtain ⟨x61, e62, hf⟩ := hf
      refine q_getA (pc := 219) dX9_item_219 gX9_12 e62 ?_
      refine r_aload_n (pc := 222) dX9_item_222 rfl ?_
      replace hf := obind hf
      obtain ⟨x63, e64, hf⟩ := hf
      refine q_getA (pc := 223) dX9_item_223 gX9_25 e64 ?_
      refine r_iload_n (pc := 226) dX9_item_226 rfl ?_
      replace hf := obind hf
      obtain ⟨q65, e66, hf⟩ := hf
      refine q_callV (pc := 227) (v := some (.long q65)) (S' := q1) mX6_familyOf 6 [.int a1] dX9_item_227 kX9_198 fX6_familyOf iX6_familyOf ⟨by decide, by decide⟩ rfl rfl rfl (Nat.le_of_ble_eq_true rfl) (og e66) (mc1 := 0) (ms1 := 0) (mc2 := 0) (ms2 := 0) (by decide) (by decide) (C_X6_familyOf q1 x63 a1 q65 e66 (qR_mk _ _)) ?_
      change gW _ _ _ _ (.long q65 :: _) _ _ _ _ _
      replace hf := obind hf
      obtain ⟨q67, e68, hf⟩ := hf
      refine q_callV (pc := 230) (v := some (.int q67)) (S' := q1) mX8_latestDay 8 [.long q65] dX9_item_230 kX9_300 fX8_latestDay iX8_latestDay ⟨by decide, by decide⟩ rfl rfl rfl (Nat.le_of_ble_eq_true rfl) (og e68) (mc1 := 0) (ms1 := 0) (mc2 := 0) (ms2 := 0) (by decide) (by decide) (C_X8_latestDay q1 x61 q65 q67 e68 (qR_mk _ _)) ?_
      change gW _ _ _ _ (.int q67 :: _) _ _ _ _ _
      refine r_ireturn (pc := 233) .int dX9_item_233 rfl rfl ?_
      cases hf
      exact hk
    rw [if_neg hc11] at hf
    by_cases hc12 : a2 = (12 : Int32)
    · rw [if_pos hc12] at hf
      refine r_tableIn (pc := 6) 234 dX9_item_6 (by rw [hc12]; decide) (by rw [hc12]; decide) (off := 228) (by rw [hc12]; rfl) (by decide) ?_
      refine r_aload_n (pc := 234) dX9_item_234 rfl ?_
      refine r_iload_n (pc := 235) dX9_item_235 rfl ?_
      replace hf := obind hf
      obtain ⟨q69, e70, hf⟩ := hf
      refine q_callV (pc := 236) (v := some (.int q69)) (S' := q1) mX9_countLeaves 9 [.int a1] dX9_item_236 kX9_303 fX9_countLeaves iX9_countLeaves ⟨by decide, by decide⟩ rfl rfl rfl (Nat.le_of_ble_eq_true rfl) (og e70) (mc1 := 0) (ms1 := 0) (mc2 := 0) (ms2 := 0) (by decide) (by decide) (C_X9_countLeaves q1 a0 a1 q69 e70 (qR_mk _ _)) ?_
      change gW _ _ _ _ (.int q69 :: _) _ _ _ _ _
      refine r_ireturn (pc := 239) .int dX9_item_239 rfl rfl ?_
      cases hf
      exact hk
    rw [if_neg hc12] at hf
    by_cases hc13 : a2 = (13 : Int32)
    · rw [if_pos hc13] at hf
      refine r_tableIn (pc := 6) 240 dX9_item_6 (by rw [hc13]; decide) (by rw [hc13]; decide) (off := 234) (by rw [hc13]; rfl) (by decide) ?_
      refine r_aload_n (pc := 240) dX9_item_240 rfl ?_
      refine r_iload_n (pc := 241) dX9_item_241 rfl ?_
      replace hf := obind hf
      obtain ⟨q71, e72, hf⟩ := hf
      refine q_callV (pc := 242) (v := some (.int q71)) (S' := q1) mX9_countDoneLeaves 9 [.int a1] dX9_item_242 kX9_306 fX9_countDoneLeaves iX9_countDoneLeaves ⟨by decide, by decide⟩ rfl rfl rfl (Nat.le_of_ble_eq_true rfl) (og e72) (mc1 := 0) (ms1 := 0) (mc2 := 0) (ms2 := 0) (by decide) (by decide) (C_X9_countDoneLeaves q1 a0 a1 q71 e72 (qR_mk _ _)) ?_
      change gW _ _ _ _ (.int q71 :: _) _ _ _ _ _
      refine r_ireturn (pc := 245) .int dX9_item_245 rfl rfl ?_
      cases hf
      exact hk
    rw [if_neg hc13] at hf
    by_cases hc14 : a2 = (14 : Int32)
    · rw [if_pos hc14] at hf
      refine r_tableIn (pc := 6) 246 dX9_item_6 (by rw [hc14]; decide) (by rw [hc14]; decide) (off := 240) (by rw [hc14]; rfl) (by decide) ?_
      refine r_aload_n (pc := 246) dX9_item_246 rfl ?_
      replace hf := obind hf
      obtain ⟨x73, e74, hf⟩ := hf
      refine q_getA (pc := 247) dX9_item_247 gX9_25 e74 ?_
      refine r_iload_n (pc := 250) dX9_item_250 rfl ?_
      replace hf := obind hf
      obtain ⟨q75, e76, hf⟩ := hf
      refine q_callV (pc := 251) (v := some (.int q75)) (S' := q1) mX6_placesBelow 6 [.int a1] dX9_item_251 kX9_309 fX6_placesBelow iX6_placesBelow ⟨by decide, by decide⟩ rfl rfl rfl (Nat.le_of_ble_eq_true rfl) (og e76) (mc1 := 0) (ms1 := 0) (mc2 := 0) (ms2 := 0) (by decide) (by decide) (C_X6_placesBelow q1 x73 a1 q75 e76 (qR_mk _ _)) ?_
      change gW _ _ _ _ (.int q75 :: _) _ _ _ _ _
      refine r_ireturn (pc := 254) .int dX9_item_254 rfl rfl ?_
      cases hf
      exact hk
    rw [if_neg hc14] at hf
    refine r_tableOut (pc := 6) 255 dX9_item_6 (by
      have := tsw_out a2 (0) 15 (fun j hj => by
        match j, hj with
        | 0, _ => exact hc0
        | 1, _ => exact hc1
        | 2, _ => exact hc2
        | 3, _ => exact hc3
        | 4, _ => exact hc4
        | 5, _ => exact hc5
        | 6, _ => exact hc6
        | 7, _ => exact hc7
        | 8, _ => exact hc8
        | 9, _ => exact hc9
        | 10, _ => exact hc10
        | 11, _ => exact hc11
        | 12, _ => exact hc12
        | 13, _ => exact hc13
        | 14, _ => exact hc14
        | j + 15, hj => exact absurd hj (by omega))
      simpa using this) (by decide) ?_
    refine r_throwW (pc := 255) "java/lang/IllegalArgumentException" 21 dX9_item_255 dX9_item_258 dX9_item_259 dX9_item_262 dX9_item_265 xX9_114_118 rfl ⟨by decide, Nat.le_of_ble_eq_true rfl⟩ (by decide) (by decide) ?_
    cases hf
    exact hk
  · simp only [Sum.elim_inl, Sum.elim_inr] at hf
    refine q_callVt (pc := 2) (E := q1.1) (S' := q1.2) mX9_needItem 9 [.int a1] dX9_item_2 kX9_137 fX9_needItem iX9_needItem ⟨by decide, by decide⟩ rfl rfl rfl (Nat.le_of_ble_eq_true rfl) (og e2) (mc1 := 1) (ms1 := 6) (by decide) (by decide) (C_X9_needItem S a0 a1 (.inr q1) e2 (qX_mk _ _)) ?_
    cases hf
    exact hk
def F_X9_related_30 (S : pS) (l0 : Nat) (l1 : Int32) (l2 : Int32) (l3 : Int32) (t0 : Nat) (t1 : Int32) (t2 : Int32) : Option ((Int32 × pS) ⊕ (String × pS)) := (F_X9_needIndex S t0 t1 t2).bind fun q7 => Sum.elim (fun q7 => if l3 = 0 then ((oGA q7 l0 9 0).bind fun x9 => (F_X8_childAt q7 x9 l1 l2).bind fun q11 => some (.inl (q11, q7))) else ((oGA q7 l0 9 0).bind fun x13 => (F_X8_parentAt q7 x13 l1 l2).bind fun q15 => some (.inl (q15, q7)))) (fun q7 => some (.inr q7)) q7
set_option maxRecDepth 100000 in
set_option maxHeartbeats 4000000 in
theorem W_X9_related_30 {X : pX} {Q : pO → Nat → pF → Prop} (S : pS) (l0 : Nat) (l1 : Int32) (l2 : Int32) (l3 : Int32) (t0 : Nat) (t1 : Int32) (t2 : Int32) (r : (Int32 × pS) ⊕ (String × pS)) (hf : F_X9_related_30 S l0 l1 l2 l3 t0 t1 t2 = some r) (hk : Sum.elim (fun q => Q (.inl (some (.int q.1))) q.2.1 q.2.2) (fun q => ∀ n', q.2.1 ≤ n' → Q (.inr q.1) n' (gjunk q.2.2 q.2.1)) r) : gW X mX9_related 30 [some (.ref l0), some (.int l1), some (.int l2), some (.int l3)] [.int t2, .int t1, .ref t0] S.1 S.2 Q 1 6 := by
  unfold F_X9_related_30 at hf
  replace hf := obind hf
  obtain ⟨q7, e8, hf⟩ := hf
  rcases q7 with q7 | q7
  · simp only [Sum.elim_inl, Sum.elim_inr] at hf
    refine q_callV (pc := 30) (v := none) (S' := q7) mX9_needIndex 9 [.int t1, .int t2] dX9_related_30 kX9_189 fX9_needIndex iX9_needIndex ⟨by decide, by decide⟩ rfl rfl rfl (Nat.le_of_ble_eq_true rfl) (og e8) (mc1 := 1) (ms1 := 6) (mc2 := 0) (ms2 := 0) (by decide) (by decide) (C_X9_needIndex S t0 t1 t2 (.inl q7) e8 (qR_mk _ _)) ?_
    refine r_iload_n (pc := 33) dX9_related_33 rfl ?_
    refine r_if_eq (pc := 34) 49 dX9_related_34 (by decide) (fun hc => ?_) (fun hc => ?_)
    · rw [if_pos hc] at hf
      refine r_aload_n (pc := 49) dX9_related_49 rfl ?_
      replace hf := obind hf
      obtain ⟨x9, e10, hf⟩ := hf
      refine q_getA (pc := 50) dX9_related_50 gX9_12 e10 ?_
      refine r_iload_n (pc := 53) dX9_related_53 rfl ?_
      refine r_iload_n (pc := 54) dX9_related_54 rfl ?_
      replace hf := obind hf
      obtain ⟨q11, e12, hf⟩ := hf
      refine q_callV (pc := 55) (v := some (.int q11)) (S' := q7) mX8_childAt 8 [.int l1, .int l2] dX9_related_55 kX9_232 fX8_childAt iX8_childAt ⟨by decide, by decide⟩ rfl rfl rfl (Nat.le_of_ble_eq_true rfl) (og e12) (mc1 := 0) (ms1 := 0) (mc2 := 0) (ms2 := 0) (by decide) (by decide) (C_X8_childAt q7 x9 l1 l2 q11 e12 (qR_mk _ _)) ?_
      change gW _ _ _ _ (.int q11 :: _) _ _ _ _ _
      refine r_ireturn (pc := 58) .int dX9_related_58 rfl rfl ?_
      cases hf
      exact hk
    · rw [if_neg hc] at hf
      refine r_aload_n (pc := 37) dX9_related_37 rfl ?_
      replace hf := obind hf
      obtain ⟨x13, e14, hf⟩ := hf
      refine q_getA (pc := 38) dX9_related_38 gX9_12 e14 ?_
      refine r_iload_n (pc := 41) dX9_related_41 rfl ?_
      refine r_iload_n (pc := 42) dX9_related_42 rfl ?_
      replace hf := obind hf
      obtain ⟨q15, e16, hf⟩ := hf
      refine q_callV (pc := 43) (v := some (.int q15)) (S' := q7) mX8_parentAt 8 [.int l1, .int l2] dX9_related_43 kX9_314 fX8_parentAt iX8_parentAt ⟨by decide, by decide⟩ rfl rfl rfl (Nat.le_of_ble_eq_true rfl) (og e16) (mc1 := 0) (ms1 := 0) (mc2 := 0) (ms2 := 0) (by decide) (by decide) (C_X8_parentAt q7 x13 l1 l2 q15 e16 (qR_mk _ _)) ?_
      change gW _ _ _ _ (.int q15 :: _) _ _ _ _ _
      refine r_goto (pc := 46) 58 dX9_related_46 (by decide) ?_
      refine r_ireturn (pc := 58) .int dX9_related_58 rfl rfl ?_
      cases hf
      exact hk
  · simp only [Sum.elim_inl, Sum.elim_inr] at hf
    refine q_callVt (pc := 30) (E := q7.1) (S' := q7.2) mX9_needIndex 9 [.int t1, .int t2] dX9_related_30 kX9_189 fX9_needIndex iX9_needIndex ⟨by decide, by decide⟩ rfl rfl rfl (Nat.le_of_ble_eq_true rfl) (og e8) (mc1 := 1) (ms1 := 6) (by decide) (by decide) (C_X9_needIndex S t0 t1 t2 (.inr q7) e8 (qX_mk _ _)) ?_
    cases hf
    exact hk
def F_X9_related (S : pS) (a0 : Nat) (a1 : Int32) (a2 : Int32) (a3 : Int32) : Option ((Int32 × pS) ⊕ (String × pS)) := (oF S a0 9).bind fun _ => (F_X9_needItem S a0 a1).bind fun q1 => Sum.elim (fun q1 => if a3 = 0 then ((oGA q1 a0 9 0).bind fun x3 => (F_X8_childCount q1 x3 a1).bind fun q5 => F_X9_related_30 q1 a0 a1 a2 a3 a0 a2 q5) else ((oGA q1 a0 9 3).bind fun x17 => (F_X6_parentsOf q1 x17 a1).bind fun q19 => F_X9_related_30 q1 a0 a1 a2 a3 a0 a2 q19)) (fun q1 => some (.inr q1)) q1
set_option maxRecDepth 100000 in
set_option maxHeartbeats 4000000 in
theorem C_X9_related {X : pX} {Q : pO → Nat → pF → Prop} (S : pS) (a0 : Nat) (a1 : Int32) (a2 : Int32) (a3 : Int32) (r : (Int32 × pS) ⊕ (String × pS)) (hf : F_X9_related S a0 a1 a2 a3 = some r) (hk : Sum.elim (fun q => Q (.inl (some (.int q.1))) q.2.1 q.2.2) (fun q => ∀ n', q.2.1 ≤ n' → Q (.inr q.1) n' (gjunk q.2.2 q.2.1)) r) : gC X mX9_related [.ref a0, .int a1, .int a2, .int a3] S.1 S.2 Q 2 12 := by
  refine gC_of (by decide) (Nat.le_of_ble_eq_true rfl) rfl ?_
  change gW _ _ _ [some (.ref a0), some (.int a1), some (.int a2), some (.int a3)] _ _ _ _ _ _
  unfold F_X9_related at hf
  obtain ⟨_, _, hf⟩ := obind hf
  refine r_aload_n (pc := 0) dX9_related_0 rfl ?_
  refine r_iload_n (pc := 1) dX9_related_1 rfl ?_
  replace hf := obind hf
  obtain ⟨q1, e2, hf⟩ := hf
  rcases q1 with q1 | q1
  · simp only [Sum.elim_inl, Sum.elim_inr] at hf
    refine q_callV (pc := 2) (v := none) (S' := q1) mX9_needItem 9 [.int a1] dX9_related_2 kX9_137 fX9_needItem iX9_needItem ⟨by decide, by decide⟩ rfl rfl rfl (Nat.le_of_ble_eq_true rfl) (og e2) (mc1 := 1) (ms1 := 6) (mc2 := 1) (ms2 := 6) (by decide) (by decide) (C_X9_needItem S a0 a1 (.inl q1) e2 (qR_mk _ _)) ?_
    refine r_aload_n (pc := 5) dX9_related_5 rfl ?_
    refine r_iload_n (pc := 6) dX9_related_6 rfl ?_
    refine r_iload_n (pc := 7) dX9_related_7 rfl ?_
    refine r_if_eq (pc := 8) 22 dX9_related_8 (by decide) (fun hc => ?_) (fun hc => ?_)
    · rw [if_pos hc] at hf
      refine r_aload_n (pc := 22) dX9_related_22 rfl ?_
      replace hf := obind hf
      obtain ⟨x3, e4, hf⟩ := hf
      refine q_getA (pc := 23) dX9_related_23 gX9_12 e4 ?_
      refine r_iload_n (pc := 26) dX9_related_26 rfl ?_
      replace hf := obind hf
      obtain ⟨q5, e6, hf⟩ := hf
      refine q_callV (pc := 27) (v := some (.int q5)) (S' := q1) mX8_childCount 8 [.int a1] dX9_related_27 kX9_141 fX8_childCount iX8_childCount ⟨by decide, by decide⟩ rfl rfl rfl (Nat.le_of_ble_eq_true rfl) (og e6) (mc1 := 0) (ms1 := 0) (mc2 := 1) (ms2 := 6) (by decide) (by decide) (C_X8_childCount q1 x3 a1 q5 e6 (qR_mk _ _)) ?_
      change gW _ _ _ _ (.int q5 :: _) _ _ _ _ _
      refine gW.mono (mc := 1) (ms := 6) ?_ (fun _ _ _ q => q) (by decide) (by decide)
      exact gW.weak (by simp [gle]) (W_X9_related_30 q1 a0 a1 a2 a3 a0 a2 q5 r hf hk)
    · rw [if_neg hc] at hf
      refine r_aload_n (pc := 11) dX9_related_11 rfl ?_
      replace hf := obind hf
      obtain ⟨x17, e18, hf⟩ := hf
      refine q_getA (pc := 12) dX9_related_12 gX9_25 e18 ?_
      refine r_iload_n (pc := 15) dX9_related_15 rfl ?_
      replace hf := obind hf
      obtain ⟨q19, e20, hf⟩ := hf
      refine q_callV (pc := 16) (v := some (.int q19)) (S' := q1) mX6_parentsOf 6 [.int a1] dX9_related_16 kX9_286 fX6_parentsOf iX6_parentsOf ⟨by decide, by decide⟩ rfl rfl rfl (Nat.le_of_ble_eq_true rfl) (og e20) (mc1 := 0) (ms1 := 0) (mc2 := 1) (ms2 := 6) (by decide) (by decide) (C_X6_parentsOf q1 x17 a1 q19 e20 (qR_mk _ _)) ?_
      change gW _ _ _ _ (.int q19 :: _) _ _ _ _ _
      refine r_goto (pc := 19) 30 dX9_related_19 (by decide) ?_
      refine gW.mono (mc := 1) (ms := 6) ?_ (fun _ _ _ q => q) (by decide) (by decide)
      exact gW.weak (by simp [gle]) (W_X9_related_30 q1 a0 a1 a2 a3 a0 a2 q19 r hf hk)
  · simp only [Sum.elim_inl, Sum.elim_inr] at hf
    refine q_callVt (pc := 2) (E := q1.1) (S' := q1.2) mX9_needItem 9 [.int a1] dX9_related_2 kX9_137 fX9_needItem iX9_needItem ⟨by decide, by decide⟩ rfl rfl rfl (Nat.le_of_ble_eq_true rfl) (og e2) (mc1 := 1) (ms1 := 6) (by decide) (by decide) (C_X9_needItem S a0 a1 (.inr q1) e2 (qX_mk _ _)) ?_
    cases hf
    exact hk
def F_X9_letter (S : pS) (a0 : Nat) (a1 : Int32) (a2 : Int32) : Option ((Int32 × pS) ⊕ (String × pS)) := (oF S a0 9).bind fun _ => (F_X9_needNamedItem S a0 a1).bind fun q1 => Sum.elim (fun q1 => (oGA q1 a0 9 0).bind fun x3 => (F_X8_nameLength q1 x3 a1).bind fun q5 => (F_X9_needIndex q1 a0 a2 q5).bind fun q7 => Sum.elim (fun q7 => (oGA q7 a0 9 0).bind fun x9 => (F_X8_letterAt q7 x9 a1 a2).bind fun q11 => (oC q11).bind fun x13 => some (.inl (x13, q7))) (fun q7 => some (.inr q7)) q7) (fun q1 => some (.inr q1)) q1
set_option maxRecDepth 100000 in
set_option maxHeartbeats 4000000 in
theorem C_X9_letter {X : pX} {Q : pO → Nat → pF → Prop} (S : pS) (a0 : Nat) (a1 : Int32) (a2 : Int32) (r : (Int32 × pS) ⊕ (String × pS)) (hf : F_X9_letter S a0 a1 a2 = some r) (hk : Sum.elim (fun q => Q (.inl (some (.int q.1))) q.2.1 q.2.2) (fun q => ∀ n', q.2.1 ≤ n' → Q (.inr q.1) n' (gjunk q.2.2 q.2.1)) r) : gC X mX9_letter [.ref a0, .int a1, .int a2] S.1 S.2 Q 2 12 := by
  refine gC_of (by decide) (Nat.le_of_ble_eq_true rfl) rfl ?_
  change gW _ _ _ [some (.ref a0), some (.int a1), some (.int a2)] _ _ _ _ _ _
  unfold F_X9_letter at hf
  obtain ⟨_, _, hf⟩ := obind hf
  refine r_aload_n (pc := 0) dX9_letter_0 rfl ?_
  refine r_iload_n (pc := 1) dX9_letter_1 rfl ?_
  replace hf := obind hf
  obtain ⟨q1, e2, hf⟩ := hf
  rcases q1 with q1 | q1
  · simp only [Sum.elim_inl, Sum.elim_inr] at hf
    refine q_callV (pc := 2) (v := none) (S' := q1) mX9_needNamedItem 9 [.int a1] dX9_letter_2 kX9_179 fX9_needNamedItem iX9_needNamedItem ⟨by decide, by decide⟩ rfl rfl rfl (Nat.le_of_ble_eq_true rfl) (og e2) (mc1 := 1) (ms1 := 6) (mc2 := 1) (ms2 := 6) (by decide) (by decide) (C_X9_needNamedItem S a0 a1 (.inl q1) e2 (qR_mk _ _)) ?_
    refine r_aload_n (pc := 5) dX9_letter_5 rfl ?_
    refine r_iload_n (pc := 6) dX9_letter_6 rfl ?_
    refine r_aload_n (pc := 7) dX9_letter_7 rfl ?_
    replace hf := obind hf
    obtain ⟨x3, e4, hf⟩ := hf
    refine q_getA (pc := 8) dX9_letter_8 gX9_12 e4 ?_
    refine r_iload_n (pc := 11) dX9_letter_11 rfl ?_
    replace hf := obind hf
    obtain ⟨q5, e6, hf⟩ := hf
    refine q_callV (pc := 12) (v := some (.int q5)) (S' := q1) mX8_nameLength 8 [.int a1] dX9_letter_12 kX9_247 fX8_nameLength iX8_nameLength ⟨by decide, by decide⟩ rfl rfl rfl (Nat.le_of_ble_eq_true rfl) (og e6) (mc1 := 0) (ms1 := 0) (mc2 := 1) (ms2 := 6) (by decide) (by decide) (C_X8_nameLength q1 x3 a1 q5 e6 (qR_mk _ _)) ?_
    change gW _ _ _ _ (.int q5 :: _) _ _ _ _ _
    replace hf := obind hf
    obtain ⟨q7, e8, hf⟩ := hf
    rcases q7 with q7 | q7
    · simp only [Sum.elim_inl, Sum.elim_inr] at hf
      refine q_callV (pc := 15) (v := none) (S' := q7) mX9_needIndex 9 [.int a2, .int q5] dX9_letter_15 kX9_189 fX9_needIndex iX9_needIndex ⟨by decide, by decide⟩ rfl rfl rfl (Nat.le_of_ble_eq_true rfl) (og e8) (mc1 := 1) (ms1 := 6) (mc2 := 0) (ms2 := 0) (by decide) (by decide) (C_X9_needIndex q1 a0 a2 q5 (.inl q7) e8 (qR_mk _ _)) ?_
      refine r_aload_n (pc := 18) dX9_letter_18 rfl ?_
      replace hf := obind hf
      obtain ⟨x9, e10, hf⟩ := hf
      refine q_getA (pc := 19) dX9_letter_19 gX9_12 e10 ?_
      refine r_iload_n (pc := 22) dX9_letter_22 rfl ?_
      refine r_iload_n (pc := 23) dX9_letter_23 rfl ?_
      replace hf := obind hf
      obtain ⟨q11, e12, hf⟩ := hf
      refine q_callV (pc := 24) (v := some (.int q11)) (S' := q7) mX8_letterAt 8 [.int a1, .int a2] dX9_letter_24 kX9_317 fX8_letterAt iX8_letterAt ⟨by decide, by decide⟩ rfl rfl rfl (Nat.le_of_ble_eq_true rfl) (og e12) (mc1 := 0) (ms1 := 0) (mc2 := 0) (ms2 := 0) (by decide) (by decide) (C_X8_letterAt q7 x9 a1 a2 q11 e12 (qR_mk _ _)) ?_
      change gW _ _ _ _ (.int q11 :: _) _ _ _ _ _
      replace hf := obind hf
      obtain ⟨x13, e14, hf⟩ := hf
      obtain ⟨e14a, e14b⟩ := oC_some e14
      rw [e14a] at hf
      refine r_ireturn (pc := 27) .char dX9_letter_27 rfl e14b ?_
      cases hf
      exact hk
    · simp only [Sum.elim_inl, Sum.elim_inr] at hf
      refine q_callVt (pc := 15) (E := q7.1) (S' := q7.2) mX9_needIndex 9 [.int a2, .int q5] dX9_letter_15 kX9_189 fX9_needIndex iX9_needIndex ⟨by decide, by decide⟩ rfl rfl rfl (Nat.le_of_ble_eq_true rfl) (og e8) (mc1 := 1) (ms1 := 6) (by decide) (by decide) (C_X9_needIndex q1 a0 a2 q5 (.inr q7) e8 (qX_mk _ _)) ?_
      cases hf
      exact hk
  · simp only [Sum.elim_inl, Sum.elim_inr] at hf
    refine q_callVt (pc := 2) (E := q1.1) (S' := q1.2) mX9_needNamedItem 9 [.int a1] dX9_letter_2 kX9_179 fX9_needNamedItem iX9_needNamedItem ⟨by decide, by decide⟩ rfl rfl rfl (Nat.le_of_ble_eq_true rfl) (og e2) (mc1 := 1) (ms1 := 6) (by decide) (by decide) (C_X9_needNamedItem S a0 a1 (.inr q1) e2 (qX_mk _ _)) ?_
    cases hf
    exact hk
def F_X9_isBelow (S : pS) (a0 : Nat) (a1 : Int32) (a2 : Int32) : Option ((Int32 × pS) ⊕ (String × pS)) := (oF S a0 9).bind fun _ => (F_X9_needItem S a0 a1).bind fun q1 => Sum.elim (fun q1 => (F_X9_needItem q1 a0 a2).bind fun q3 => Sum.elim (fun q3 => if a1 = a2 then (some (.inl ((0 : Int32), q3))) else ((oGA q3 a0 9 3).bind fun x5 => (F_X6_familyOf q3 x5 a2).bind fun q7 => (F_X9_contains q3 q7 a1).bind fun q9 => if q9 = 0 then (some (.inl ((0 : Int32), q3))) else (some (.inl ((1 : Int32), q3))))) (fun q3 => some (.inr q3)) q3) (fun q1 => some (.inr q1)) q1
set_option maxRecDepth 100000 in
set_option maxHeartbeats 4000000 in
theorem C_X9_isBelow {X : pX} {Q : pO → Nat → pF → Prop} (S : pS) (a0 : Nat) (a1 : Int32) (a2 : Int32) (r : (Int32 × pS) ⊕ (String × pS)) (hf : F_X9_isBelow S a0 a1 a2 = some r) (hk : Sum.elim (fun q => Q (.inl (some (.int q.1))) q.2.1 q.2.2) (fun q => ∀ n', q.2.1 ≤ n' → Q (.inr q.1) n' (gjunk q.2.2 q.2.1)) r) : gC X mX9_isBelow [.ref a0, .int a1, .int a2] S.1 S.2 Q 2 12 := by
  refine gC_of (by decide) (Nat.le_of_ble_eq_true rfl) rfl ?_
  change gW _ _ _ [some (.ref a0), some (.int a1), some (.int a2)] _ _ _ _ _ _
  unfold F_X9_isBelow at hf
  obtain ⟨_, _, hf⟩ := obind hf
  refine r_aload_n (pc := 0) dX9_isBelow_0 rfl ?_
  refine r_iload_n (pc := 1) dX9_isBelow_1 rfl ?_
  replace hf := obind hf
  obtain ⟨q1, e2, hf⟩ := hf
  rcases q1 with q1 | q1
  · simp only [Sum.elim_inl, Sum.elim_inr] at hf
    refine q_callV (pc := 2) (v := none) (S' := q1) mX9_needItem 9 [.int a1] dX9_isBelow_2 kX9_137 fX9_needItem iX9_needItem ⟨by decide, by decide⟩ rfl rfl rfl (Nat.le_of_ble_eq_true rfl) (og e2) (mc1 := 1) (ms1 := 6) (mc2 := 1) (ms2 := 6) (by decide) (by decide) (C_X9_needItem S a0 a1 (.inl q1) e2 (qR_mk _ _)) ?_
    refine r_aload_n (pc := 5) dX9_isBelow_5 rfl ?_
    refine r_iload_n (pc := 6) dX9_isBelow_6 rfl ?_
    replace hf := obind hf
    obtain ⟨q3, e4, hf⟩ := hf
    rcases q3 with q3 | q3
    · simp only [Sum.elim_inl, Sum.elim_inr] at hf
      refine q_callV (pc := 7) (v := none) (S' := q3) mX9_needItem 9 [.int a2] dX9_isBelow_7 kX9_137 fX9_needItem iX9_needItem ⟨by decide, by decide⟩ rfl rfl rfl (Nat.le_of_ble_eq_true rfl) (og e4) (mc1 := 1) (ms1 := 6) (mc2 := 0) (ms2 := 0) (by decide) (by decide) (C_X9_needItem q1 a0 a2 (.inl q3) e4 (qR_mk _ _)) ?_
      refine r_iload_n (pc := 10) dX9_isBelow_10 rfl ?_
      refine r_iload_n (pc := 11) dX9_isBelow_11 rfl ?_
      refine r_icmp_eq (pc := 12) 34 dX9_isBelow_12 (by decide) (fun hc => ?_) (fun hc => ?_)
      · rw [if_pos hc] at hf
        refine r_iconst (pc := 34) (0 : Int32) dX9_isBelow_34 (by decide) ?_
        refine r_ireturn (pc := 35) .boolean dX9_isBelow_35 rfl rfl ?_
        cases hf
        exact hk
      · rw [if_neg hc] at hf
        refine r_aload_n (pc := 15) dX9_isBelow_15 rfl ?_
        replace hf := obind hf
        obtain ⟨x5, e6, hf⟩ := hf
        refine q_getA (pc := 16) dX9_isBelow_16 gX9_25 e6 ?_
        refine r_iload_n (pc := 19) dX9_isBelow_19 rfl ?_
        replace hf := obind hf
        obtain ⟨q7, e8, hf⟩ := hf
        refine q_callV (pc := 20) (v := some (.long q7)) (S' := q3) mX6_familyOf 6 [.int a2] dX9_isBelow_20 kX9_198 fX6_familyOf iX6_familyOf ⟨by decide, by decide⟩ rfl rfl rfl (Nat.le_of_ble_eq_true rfl) (og e8) (mc1 := 0) (ms1 := 0) (mc2 := 0) (ms2 := 0) (by decide) (by decide) (C_X6_familyOf q3 x5 a2 q7 e8 (qR_mk _ _)) ?_
        change gW _ _ _ _ (.long q7 :: _) _ _ _ _ _
        refine r_iload_n (pc := 23) dX9_isBelow_23 rfl ?_
        replace hf := obind hf
        obtain ⟨q9, e10, hf⟩ := hf
        refine q_callS (pc := 24) (v := some (.int q9)) (S' := q3) mX9_contains [.long q7, .int a1] dX9_isBelow_24 kX9_275 fX9_contains sX9_contains ⟨by decide, by decide⟩ rfl rfl (Nat.le_of_ble_eq_true rfl) (mc1 := 0) (ms1 := 0) (mc2 := 0) (ms2 := 0) (by decide) (by decide) (C_X9_contains q3 q7 a1 q9 e10 (qR_mk _ _)) ?_
        change gW _ _ _ _ (.int q9 :: _) _ _ _ _ _
        refine r_if_eq (pc := 27) 34 dX9_isBelow_27 (by decide) (fun hc => ?_) (fun hc => ?_)
        · rw [if_pos hc] at hf
          refine r_iconst (pc := 34) (0 : Int32) dX9_isBelow_34 (by decide) ?_
          refine r_ireturn (pc := 35) .boolean dX9_isBelow_35 rfl rfl ?_
          cases hf
          exact hk
        · rw [if_neg hc] at hf
          refine r_iconst (pc := 30) (1 : Int32) dX9_isBelow_30 (by decide) ?_
          refine r_goto (pc := 31) 35 dX9_isBelow_31 (by decide) ?_
          refine r_ireturn (pc := 35) .boolean dX9_isBelow_35 rfl rfl ?_
          cases hf
          exact hk
    · simp only [Sum.elim_inl, Sum.elim_inr] at hf
      refine q_callVt (pc := 7) (E := q3.1) (S' := q3.2) mX9_needItem 9 [.int a2] dX9_isBelow_7 kX9_137 fX9_needItem iX9_needItem ⟨by decide, by decide⟩ rfl rfl rfl (Nat.le_of_ble_eq_true rfl) (og e4) (mc1 := 1) (ms1 := 6) (by decide) (by decide) (C_X9_needItem q1 a0 a2 (.inr q3) e4 (qX_mk _ _)) ?_
      cases hf
      exact hk
  · simp only [Sum.elim_inl, Sum.elim_inr] at hf
    refine q_callVt (pc := 2) (E := q1.1) (S' := q1.2) mX9_needItem 9 [.int a1] dX9_isBelow_2 kX9_137 fX9_needItem iX9_needItem ⟨by decide, by decide⟩ rfl rfl rfl (Nat.le_of_ble_eq_true rfl) (og e2) (mc1 := 1) (ms1 := 6) (by decide) (by decide) (C_X9_needItem S a0 a1 (.inr q1) e2 (qX_mk _ _)) ?_
    cases hf
    exact hk
def F_X9_outline (S : pS) (a0 : Nat) (a1 : Int32) : Option ((Int32 × pS) ⊕ (String × pS)) := (oF S a0 9).bind fun _ => if a1 = (0 : Int32) then ((oGA S a0 9 0).bind fun x1 => (F_X8_countItems S x1).bind fun q3 => some (.inl (q3, S))) else if a1 = (1 : Int32) then ((oGA S a0 9 0).bind fun x5 => (F_X8_countAdded S x5).bind fun q7 => some (.inl (q7, S))) else if a1 = (2 : Int32) then ((oGA S a0 9 3).bind fun x9 => (F_X6_placesBelow S x9 (0 : Int32)).bind fun q11 => some (.inl (q11, S))) else if a1 = (3 : Int32) then ((F_X9_countLines S a0).bind fun q13 => some (.inl (q13.1, q13.2))) else if a1 = (4 : Int32) then ((oGA S a0 9 6).bind fun x15 => (F_X4_top S x15).bind fun q17 => some (.inl (q17, S))) else if a1 = (5 : Int32) then ((oGA S a0 9 6).bind fun x19 => (F_X4_size S x19).bind fun q21 => some (.inl (q21, S))) else if a1 = (6 : Int32) then ((oGA S a0 9 7).bind fun x23 => (F_X1_size S x23).bind fun q25 => some (.inl (q25, S))) else if a1 = (7 : Int32) then ((oGA S a0 9 7).bind fun x27 => (oGA S a0 9 0).bind fun x29 => (oGA S a0 9 3).bind fun x31 => (F_X1_fittingItems S x27 x29 x31).bind fun q33 => (F_J13_bitCount_95d88 S q33).bind fun q35 => some (.inl (q35, S))) else if a1 = (8 : Int32) then ((oGA S a0 9 10).bind fun x37 => (F_X7_size S x37).bind fun q39 => some (.inl (q39, S))) else if a1 = (9 : Int32) then ((oGA S a0 9 5).bind fun x41 => (F_X3_size S x41).bind fun q43 => some (.inl (q43, S))) else if a1 = (10 : Int32) then ((oGA S a0 9 3).bind fun x45 => (F_X6_greatestDepth S x45).bind fun q47 => some (.inl (q47, S))) else (some (.inr ("java/lang/IllegalArgumentException", S)))
set_option maxRecDepth 100000 in
set_option maxHeartbeats 4000000 in
theorem C_X9_outline {X : pX} {Q : pO → Nat → pF → Prop} (S : pS) (a0 : Nat) (a1 : Int32) (r : (Int32 × pS) ⊕ (String × pS)) (hf : F_X9_outline S a0 a1 = some r) (hk : Sum.elim (fun q => Q (.inl (some (.int q.1))) q.2.1 q.2.2) (fun q => ∀ n', q.2.1 ≤ n' → Q (.inr q.1) n' (gjunk q.2.2 q.2.1)) r) : gC X mX9_outline [.ref a0, .int a1] S.1 S.2 Q 1 6 := by
  refine gC_of (by decide) (Nat.le_of_ble_eq_true rfl) rfl ?_
  change gW _ _ _ [some (.ref a0), some (.int a1)] _ _ _ _ _ _
  unfold F_X9_outline at hf
  obtain ⟨_, _, hf⟩ := obind hf
  refine r_iload_n (pc := 0) dX9_outline_0 rfl ?_
  by_cases hc0 : a1 = (0 : Int32)
  · rw [if_pos hc0] at hf
    refine r_tableIn (pc := 1) 60 dX9_outline_1 (by rw [hc0]; decide) (by rw [hc0]; decide) (off := 59) (by rw [hc0]; rfl) (by decide) ?_
    refine r_aload_n (pc := 60) dX9_outline_60 rfl ?_
    replace hf := obind hf
    obtain ⟨x1, e2, hf⟩ := hf
    refine q_getA (pc := 61) dX9_outline_61 gX9_12 e2 ?_
    replace hf := obind hf
    obtain ⟨q3, e4, hf⟩ := hf
    refine q_callV (pc := 64) (v := some (.int q3)) (S' := S) mX8_countItems 8 [] dX9_outline_64 kX9_97 fX8_countItems iX8_countItems ⟨by decide, by decide⟩ rfl rfl rfl (Nat.le_of_ble_eq_true rfl) (og e4) (mc1 := 0) (ms1 := 0) (mc2 := 0) (ms2 := 0) (by decide) (by decide) (C_X8_countItems S x1 q3 e4 (qR_mk _ _)) ?_
    change gW _ _ _ _ (.int q3 :: _) _ _ _ _ _
    refine r_ireturn (pc := 67) .int dX9_outline_67 rfl rfl ?_
    cases hf
    exact hk
  rw [if_neg hc0] at hf
  by_cases hc1 : a1 = (1 : Int32)
  · rw [if_pos hc1] at hf
    refine r_tableIn (pc := 1) 68 dX9_outline_1 (by rw [hc1]; decide) (by rw [hc1]; decide) (off := 67) (by rw [hc1]; rfl) (by decide) ?_
    refine r_aload_n (pc := 68) dX9_outline_68 rfl ?_
    replace hf := obind hf
    obtain ⟨x5, e6, hf⟩ := hf
    refine q_getA (pc := 69) dX9_outline_69 gX9_12 e6 ?_
    replace hf := obind hf
    obtain ⟨q7, e8, hf⟩ := hf
    refine q_callV (pc := 72) (v := some (.int q7)) (S' := S) mX8_countAdded 8 [] dX9_outline_72 kX9_321 fX8_countAdded iX8_countAdded ⟨by decide, by decide⟩ rfl rfl rfl (Nat.le_of_ble_eq_true rfl) (og e8) (mc1 := 0) (ms1 := 0) (mc2 := 0) (ms2 := 0) (by decide) (by decide) (C_X8_countAdded S x5 q7 e8 (qR_mk _ _)) ?_
    change gW _ _ _ _ (.int q7 :: _) _ _ _ _ _
    refine r_ireturn (pc := 75) .int dX9_outline_75 rfl rfl ?_
    cases hf
    exact hk
  rw [if_neg hc1] at hf
  by_cases hc2 : a1 = (2 : Int32)
  · rw [if_pos hc2] at hf
    refine r_tableIn (pc := 1) 76 dX9_outline_1 (by rw [hc2]; decide) (by rw [hc2]; decide) (off := 75) (by rw [hc2]; rfl) (by decide) ?_
    refine r_aload_n (pc := 76) dX9_outline_76 rfl ?_
    replace hf := obind hf
    obtain ⟨x9, e10, hf⟩ := hf
    refine q_getA (pc := 77) dX9_outline_77 gX9_25 e10 ?_
    refine r_iconst (pc := 80) (0 : Int32) dX9_outline_80 (by decide) ?_
    replace hf := obind hf
    obtain ⟨q11, e12, hf⟩ := hf
    refine q_callV (pc := 81) (v := some (.int q11)) (S' := S) mX6_placesBelow 6 [.int (0 : Int32)] dX9_outline_81 kX9_309 fX6_placesBelow iX6_placesBelow ⟨by decide, by decide⟩ rfl rfl rfl (Nat.le_of_ble_eq_true rfl) (og e12) (mc1 := 0) (ms1 := 0) (mc2 := 0) (ms2 := 0) (by decide) (by decide) (C_X6_placesBelow S x9 (0 : Int32) q11 e12 (qR_mk _ _)) ?_
    change gW _ _ _ _ (.int q11 :: _) _ _ _ _ _
    refine r_ireturn (pc := 84) .int dX9_outline_84 rfl rfl ?_
    cases hf
    exact hk
  rw [if_neg hc2] at hf
  by_cases hc3 : a1 = (3 : Int32)
  · rw [if_pos hc3] at hf
    refine r_tableIn (pc := 1) 85 dX9_outline_1 (by rw [hc3]; decide) (by rw [hc3]; decide) (off := 84) (by rw [hc3]; rfl) (by decide) ?_
    refine r_aload_n (pc := 85) dX9_outline_85 rfl ?_
    replace hf := obind hf
    obtain ⟨q13, e14, hf⟩ := hf
    refine q_callV (pc := 86) (v := some (.int q13.1)) (S' := q13.2) mX9_countLines 9 [] dX9_outline_86 kX9_218 fX9_countLines iX9_countLines ⟨by decide, by decide⟩ rfl rfl rfl (Nat.le_of_ble_eq_true rfl) (og e14) (mc1 := 0) (ms1 := 0) (mc2 := 0) (ms2 := 0) (by decide) (by decide) (C_X9_countLines S a0 q13 e14 (qR_mk _ _)) ?_
    change gW _ _ _ _ (.int q13.1 :: _) _ _ _ _ _
    refine r_ireturn (pc := 89) .int dX9_outline_89 rfl rfl ?_
    cases hf
    exact hk
  rw [if_neg hc3] at hf
  by_cases hc4 : a1 = (4 : Int32)
  · rw [if_pos hc4] at hf
    refine r_tableIn (pc := 1) 90 dX9_outline_1 (by rw [hc4]; decide) (by rw [hc4]; decide) (off := 89) (by rw [hc4]; rfl) (by decide) ?_
    refine r_aload_n (pc := 90) dX9_outline_90 rfl ?_
    replace hf := obind hf
    obtain ⟨x15, e16, hf⟩ := hf
    refine q_getA (pc := 91) dX9_outline_91 gX9_42 e16 ?_
    replace hf := obind hf
    obtain ⟨q17, e18, hf⟩ := hf
    refine q_callV (pc := 94) (v := some (.int q17)) (S' := S) mX4_top 4 [] dX9_outline_94 kX9_324 fX4_top iX4_top ⟨by decide, by decide⟩ rfl rfl rfl (Nat.le_of_ble_eq_true rfl) (og e18) (mc1 := 0) (ms1 := 0) (mc2 := 0) (ms2 := 0) (by decide) (by decide) (C_X4_top S x15 q17 e18 (qR_mk _ _)) ?_
    change gW _ _ _ _ (.int q17 :: _) _ _ _ _ _
    refine r_ireturn (pc := 97) .int dX9_outline_97 rfl rfl ?_
    cases hf
    exact hk
  rw [if_neg hc4] at hf
  by_cases hc5 : a1 = (5 : Int32)
  · rw [if_pos hc5] at hf
    refine r_tableIn (pc := 1) 98 dX9_outline_1 (by rw [hc5]; decide) (by rw [hc5]; decide) (off := 97) (by rw [hc5]; rfl) (by decide) ?_
    refine r_aload_n (pc := 98) dX9_outline_98 rfl ?_
    replace hf := obind hf
    obtain ⟨x19, e20, hf⟩ := hf
    refine q_getA (pc := 99) dX9_outline_99 gX9_42 e20 ?_
    replace hf := obind hf
    obtain ⟨q21, e22, hf⟩ := hf
    refine q_callV (pc := 102) (v := some (.int q21)) (S' := S) mX4_size 4 [] dX9_outline_102 kX9_327 fX4_size iX4_size ⟨by decide, by decide⟩ rfl rfl rfl (Nat.le_of_ble_eq_true rfl) (og e22) (mc1 := 0) (ms1 := 0) (mc2 := 0) (ms2 := 0) (by decide) (by decide) (C_X4_size S x19 q21 e22 (qR_mk _ _)) ?_
    change gW _ _ _ _ (.int q21 :: _) _ _ _ _ _
    refine r_ireturn (pc := 105) .int dX9_outline_105 rfl rfl ?_
    cases hf
    exact hk
  rw [if_neg hc5] at hf
  by_cases hc6 : a1 = (6 : Int32)
  · rw [if_pos hc6] at hf
    refine r_tableIn (pc := 1) 106 dX9_outline_1 (by rw [hc6]; decide) (by rw [hc6]; decide) (off := 105) (by rw [hc6]; rfl) (by decide) ?_
    refine r_aload_n (pc := 106) dX9_outline_106 rfl ?_
    replace hf := obind hf
    obtain ⟨x23, e24, hf⟩ := hf
    refine q_getA (pc := 107) dX9_outline_107 gX9_49 e24 ?_
    replace hf := obind hf
    obtain ⟨q25, e26, hf⟩ := hf
    refine q_callV (pc := 110) (v := some (.int q25)) (S' := S) mX1_size 1 [] dX9_outline_110 kX9_328 fX1_size iX1_size ⟨by decide, by decide⟩ rfl rfl rfl (Nat.le_of_ble_eq_true rfl) (og e26) (mc1 := 0) (ms1 := 0) (mc2 := 0) (ms2 := 0) (by decide) (by decide) (C_X1_size S x23 q25 e26 (qR_mk _ _)) ?_
    change gW _ _ _ _ (.int q25 :: _) _ _ _ _ _
    refine r_ireturn (pc := 113) .int dX9_outline_113 rfl rfl ?_
    cases hf
    exact hk
  rw [if_neg hc6] at hf
  by_cases hc7 : a1 = (7 : Int32)
  · rw [if_pos hc7] at hf
    refine r_tableIn (pc := 1) 114 dX9_outline_1 (by rw [hc7]; decide) (by rw [hc7]; decide) (off := 113) (by rw [hc7]; rfl) (by decide) ?_
    refine r_aload_n (pc := 114) dX9_outline_114 rfl ?_
    replace hf := obind hf
    obtain ⟨x27, e28, hf⟩ := hf
    refine q_getA (pc := 115) dX9_outline_115 gX9_49 e28 ?_
    refine r_aload_n (pc := 118) dX9_outline_118 rfl ?_
    replace hf := obind hf
    obtain ⟨x29, e30, hf⟩ := hf
    refine q_getA (pc := 119) dX9_outline_119 gX9_12 e30 ?_
    refine r_aload_n (pc := 122) dX9_outline_122 rfl ?_
    replace hf := obind hf
    obtain ⟨x31, e32, hf⟩ := hf
    refine q_getA (pc := 123) dX9_outline_123 gX9_25 e32 ?_
    replace hf := obind hf
    obtain ⟨q33, e34, hf⟩ := hf
    refine q_callV (pc := 126) (v := some (.long q33)) (S' := S) mX1_fittingItems 1 [.ref x29, .ref x31] dX9_outline_126 kX9_329 fX1_fittingItems iX1_fittingItems ⟨by decide, by decide⟩ rfl rfl rfl (Nat.le_of_ble_eq_true rfl) (og e34) (mc1 := 0) (ms1 := 0) (mc2 := 0) (ms2 := 0) (by decide) (by decide) (C_X1_fittingItems S x27 x29 x31 q33 e34 (qR_mk _ _)) ?_
    change gW _ _ _ _ (.long q33 :: _) _ _ _ _ _
    replace hf := obind hf
    obtain ⟨q35, e36, hf⟩ := hf
    refine q_callS (pc := 129) (v := some (.int q35)) (S' := S) mJ13_bitCount_95d88 [.long q33] dX9_outline_129 kX9_289 fJ13_bitCount_95d88 sJ13_bitCount_95d88 ⟨by decide, by decide⟩ rfl rfl (Nat.le_of_ble_eq_true rfl) (mc1 := 0) (ms1 := 0) (mc2 := 0) (ms2 := 0) (by decide) (by decide) (C_J13_bitCount_95d88 S q33 q35 e36 (qR_mk _ _)) ?_
    change gW _ _ _ _ (.int q35 :: _) _ _ _ _ _
    refine r_ireturn (pc := 132) .int dX9_outline_132 rfl rfl ?_
    cases hf
    exact hk
  rw [if_neg hc7] at hf
  by_cases hc8 : a1 = (8 : Int32)
  · rw [if_pos hc8] at hf
    refine r_tableIn (pc := 1) 133 dX9_outline_1 (by rw [hc8]; decide) (by rw [hc8]; decide) (off := 132) (by rw [hc8]; rfl) (by decide) ?_
    refine r_aload_n (pc := 133) dX9_outline_133 rfl ?_
    replace hf := obind hf
    obtain ⟨x37, e38, hf⟩ := hf
    refine q_getA (pc := 134) dX9_outline_134 gX9_66 e38 ?_
    replace hf := obind hf
    obtain ⟨q39, e40, hf⟩ := hf
    refine q_callV (pc := 137) (v := some (.int q39)) (S' := S) mX7_size 7 [] dX9_outline_137 kX9_134 fX7_size iX7_size ⟨by decide, by decide⟩ rfl rfl rfl (Nat.le_of_ble_eq_true rfl) (og e40) (mc1 := 0) (ms1 := 0) (mc2 := 0) (ms2 := 0) (by decide) (by decide) (C_X7_size S x37 q39 e40 (qR_mk _ _)) ?_
    change gW _ _ _ _ (.int q39 :: _) _ _ _ _ _
    refine r_ireturn (pc := 140) .int dX9_outline_140 rfl rfl ?_
    cases hf
    exact hk
  rw [if_neg hc8] at hf
  by_cases hc9 : a1 = (9 : Int32)
  · rw [if_pos hc9] at hf
    refine r_tableIn (pc := 1) 141 dX9_outline_1 (by rw [hc9]; decide) (by rw [hc9]; decide) (off := 140) (by rw [hc9]; rfl) (by decide) ?_
    refine r_aload_n (pc := 141) dX9_outline_141 rfl ?_
    replace hf := obind hf
    obtain ⟨x41, e42, hf⟩ := hf
    refine q_getA (pc := 142) dX9_outline_142 gX9_35 e42 ?_
    replace hf := obind hf
    obtain ⟨q43, e44, hf⟩ := hf
    refine q_callV (pc := 145) (v := some (.int q43)) (S' := S) mX3_size 3 [] dX9_outline_145 kX9_333 fX3_size iX3_size ⟨by decide, by decide⟩ rfl rfl rfl (Nat.le_of_ble_eq_true rfl) (og e44) (mc1 := 0) (ms1 := 0) (mc2 := 0) (ms2 := 0) (by decide) (by decide) (C_X3_size S x41 q43 e44 (qR_mk _ _)) ?_
    change gW _ _ _ _ (.int q43 :: _) _ _ _ _ _
    refine r_ireturn (pc := 148) .int dX9_outline_148 rfl rfl ?_
    cases hf
    exact hk
  rw [if_neg hc9] at hf
  by_cases hc10 : a1 = (10 : Int32)
  · rw [if_pos hc10] at hf
    refine r_tableIn (pc := 1) 149 dX9_outline_1 (by rw [hc10]; decide) (by rw [hc10]; decide) (off := 148) (by rw [hc10]; rfl) (by decide) ?_
    refine r_aload_n (pc := 149) dX9_outline_149 rfl ?_
    replace hf := obind hf
    obtain ⟨x45, e46, hf⟩ := hf
    refine q_getA (pc := 150) dX9_outline_150 gX9_25 e46 ?_
    replace hf := obind hf
    obtain ⟨q47, e48, hf⟩ := hf
    refine q_callV (pc := 153) (v := some (.int q47)) (S' := S) mX6_greatestDepth 6 [] dX9_outline_153 kX9_334 fX6_greatestDepth iX6_greatestDepth ⟨by decide, by decide⟩ rfl rfl rfl (Nat.le_of_ble_eq_true rfl) (og e48) (mc1 := 0) (ms1 := 0) (mc2 := 0) (ms2 := 0) (by decide) (by decide) (C_X6_greatestDepth S x45 q47 e48 (qR_mk _ _)) ?_
    change gW _ _ _ _ (.int q47 :: _) _ _ _ _ _
    refine r_ireturn (pc := 156) .int dX9_outline_156 rfl rfl ?_
    cases hf
    exact hk
  rw [if_neg hc10] at hf
  refine r_tableOut (pc := 1) 157 dX9_outline_1 (by
    have := tsw_out a1 (0) 11 (fun j hj => by
      match j, hj with
      | 0, _ => exact hc0
      | 1, _ => exact hc1
      | 2, _ => exact hc2
      | 3, _ => exact hc3
      | 4, _ => exact hc4
      | 5, _ => exact hc5
      | 6, _ => exact hc6
      | 7, _ => exact hc7
      | 8, _ => exact hc8
      | 9, _ => exact hc9
      | 10, _ => exact hc10
      | j + 11, hj => exact absurd hj (by omega))
    simpa using this) (by decide) ?_
  refine r_throwW (pc := 157) "java/lang/IllegalArgumentException" 21 dX9_outline_157 dX9_outline_160 dX9_outline_161 dX9_outline_164 dX9_outline_167 xX9_114_118 rfl ⟨by decide, Nat.le_of_ble_eq_true rfl⟩ (by decide) (by decide) ?_
  cases hf
  exact hk
def F_X9_doneShare (S : pS) (a0 : Nat) (a1 : Int32) : Option ((UInt32 × pS) ⊕ (String × pS)) := (oF S a0 9).bind fun _ => (F_X9_needItem S a0 a1).bind fun q1 => Sum.elim (fun q1 => (F_X9_countLeaves q1 a0 a1).bind fun q3 => if ¬ q3 = 0 then ((F_X9_countDoneLeaves q1 a0 a1).bind fun q5 => (oFdiv (FP.i2f q5) (FP.i2f q3)).bind fun x7 => some (.inl (x7, q1))) else (some (.inl ((0 : UInt32), q1)))) (fun q1 => some (.inr q1)) q1
set_option maxRecDepth 100000 in
set_option maxHeartbeats 4000000 in
theorem C_X9_doneShare {X : pX} {Q : pO → Nat → pF → Prop} (S : pS) (a0 : Nat) (a1 : Int32) (r : (UInt32 × pS) ⊕ (String × pS)) (hf : F_X9_doneShare S a0 a1 = some r) (hk : Sum.elim (fun q => Q (.inl (some (.float q.1))) q.2.1 q.2.2) (fun q => ∀ n', q.2.1 ≤ n' → Q (.inr q.1) n' (gjunk q.2.2 q.2.1)) r) : gC X mX9_doneShare [.ref a0, .int a1] S.1 S.2 Q 1 6 := by
  refine gC_of (by decide) (Nat.le_of_ble_eq_true rfl) rfl ?_
  change gW _ _ _ [some (.ref a0), some (.int a1), none] _ _ _ _ _ _
  unfold F_X9_doneShare at hf
  obtain ⟨_, _, hf⟩ := obind hf
  refine r_aload_n (pc := 0) dX9_doneShare_0 rfl ?_
  refine r_iload_n (pc := 1) dX9_doneShare_1 rfl ?_
  replace hf := obind hf
  obtain ⟨q1, e2, hf⟩ := hf
  rcases q1 with q1 | q1
  · simp only [Sum.elim_inl, Sum.elim_inr] at hf
    refine q_callV (pc := 2) (v := none) (S' := q1) mX9_needItem 9 [.int a1] dX9_doneShare_2 kX9_137 fX9_needItem iX9_needItem ⟨by decide, by decide⟩ rfl rfl rfl (Nat.le_of_ble_eq_true rfl) (og e2) (mc1 := 1) (ms1 := 6) (mc2 := 0) (ms2 := 0) (by decide) (by decide) (C_X9_needItem S a0 a1 (.inl q1) e2 (qR_mk _ _)) ?_
    refine r_aload_n (pc := 5) dX9_doneShare_5 rfl ?_
    refine r_iload_n (pc := 6) dX9_doneShare_6 rfl ?_
    replace hf := obind hf
    obtain ⟨q3, e4, hf⟩ := hf
    refine q_callV (pc := 7) (v := some (.int q3)) (S' := q1) mX9_countLeaves 9 [.int a1] dX9_doneShare_7 kX9_303 fX9_countLeaves iX9_countLeaves ⟨by decide, by decide⟩ rfl rfl rfl (Nat.le_of_ble_eq_true rfl) (og e4) (mc1 := 0) (ms1 := 0) (mc2 := 0) (ms2 := 0) (by decide) (by decide) (C_X9_countLeaves q1 a0 a1 q3 e4 (qR_mk _ _)) ?_
    change gW _ _ _ _ (.int q3 :: _) _ _ _ _ _
    refine r_istore_n (pc := 10) dX9_doneShare_10 (by decide) ?_
    change gW _ _ _ [some (.ref a0), some (.int a1), some (.int q3)] _ _ _ _ _ _
    refine r_iload_n (pc := 11) dX9_doneShare_11 rfl ?_
    refine r_if_ne (pc := 12) 19 dX9_doneShare_12 (by decide) (fun hc => ?_) (fun hc => ?_)
    · rw [if_pos hc] at hf
      refine r_aload_n (pc := 19) dX9_doneShare_19 rfl ?_
      refine r_iload_n (pc := 20) dX9_doneShare_20 rfl ?_
      replace hf := obind hf
      obtain ⟨q5, e6, hf⟩ := hf
      refine q_callV (pc := 21) (v := some (.int q5)) (S' := q1) mX9_countDoneLeaves 9 [.int a1] dX9_doneShare_21 kX9_306 fX9_countDoneLeaves iX9_countDoneLeaves ⟨by decide, by decide⟩ rfl rfl rfl (Nat.le_of_ble_eq_true rfl) (og e6) (mc1 := 0) (ms1 := 0) (mc2 := 0) (ms2 := 0) (by decide) (by decide) (C_X9_countDoneLeaves q1 a0 a1 q5 e6 (qR_mk _ _)) ?_
      change gW _ _ _ _ (.int q5 :: _) _ _ _ _ _
      refine r_i2f (pc := 24) dX9_doneShare_24 ?_
      refine r_iload_n (pc := 25) dX9_doneShare_25 rfl ?_
      refine r_i2f (pc := 26) dX9_doneShare_26 ?_
      replace hf := obind hf
      obtain ⟨x7, e8, hf⟩ := hf
      refine q_fdiv (pc := 27) dX9_doneShare_27 e8 ?_
      refine r_freturn (pc := 28) dX9_doneShare_28 rfl ?_
      cases hf
      exact hk
    · rw [if_neg hc] at hf
      refine r_fconst0 (pc := 15) dX9_doneShare_15 ?_
      refine r_goto (pc := 16) 28 dX9_doneShare_16 (by decide) ?_
      refine r_freturn (pc := 28) dX9_doneShare_28 rfl ?_
      cases hf
      exact hk
  · simp only [Sum.elim_inl, Sum.elim_inr] at hf
    refine q_callVt (pc := 2) (E := q1.1) (S' := q1.2) mX9_needItem 9 [.int a1] dX9_doneShare_2 kX9_137 fX9_needItem iX9_needItem ⟨by decide, by decide⟩ rfl rfl rfl (Nat.le_of_ble_eq_true rfl) (og e2) (mc1 := 1) (ms1 := 6) (by decide) (by decide) (C_X9_needItem S a0 a1 (.inr q1) e2 (qX_mk _ _)) ?_
    cases hf
    exact hk
def F_X9_meanValue (S : pS) (a0 : Nat) (a1 : Int32) : Option ((UInt64 × pS) ⊕ (String × pS)) := (oF S a0 9).bind fun _ => (F_X9_needItem S a0 a1).bind fun q1 => Sum.elim (fun q1 => (oGA q1 a0 9 3).bind fun x3 => (F_X6_familyOf q1 x3 a1).bind fun q5 => (F_J13_bitCount_95d88 q1 q5).bind fun q7 => if ¬ q7 = 0 then ((oGA q1 a0 9 0).bind fun x9 => (F_X8_sumOf q1 x9 q5).bind fun q11 => (oDdiv (FP.i2d q11) (FP.i2d q7)).bind fun x13 => some (.inl (x13, q1))) else (some (.inl ((0 : UInt64), q1)))) (fun q1 => some (.inr q1)) q1
set_option maxRecDepth 100000 in
set_option maxHeartbeats 4000000 in
theorem C_X9_meanValue {X : pX} {Q : pO → Nat → pF → Prop} (S : pS) (a0 : Nat) (a1 : Int32) (r : (UInt64 × pS) ⊕ (String × pS)) (hf : F_X9_meanValue S a0 a1 = some r) (hk : Sum.elim (fun q => Q (.inl (some (.double q.1))) q.2.1 q.2.2) (fun q => ∀ n', q.2.1 ≤ n' → Q (.inr q.1) n' (gjunk q.2.2 q.2.1)) r) : gC X mX9_meanValue [.ref a0, .int a1] S.1 S.2 Q 1 6 := by
  refine gC_of (by decide) (Nat.le_of_ble_eq_true rfl) rfl ?_
  change gW _ _ _ [some (.ref a0), some (.int a1), none, none, none] _ _ _ _ _ _
  unfold F_X9_meanValue at hf
  obtain ⟨_, _, hf⟩ := obind hf
  refine r_aload_n (pc := 0) dX9_meanValue_0 rfl ?_
  refine r_iload_n (pc := 1) dX9_meanValue_1 rfl ?_
  replace hf := obind hf
  obtain ⟨q1, e2, hf⟩ := hf
  rcases q1 with q1 | q1
  · simp only [Sum.elim_inl, Sum.elim_inr] at hf
    refine q_callV (pc := 2) (v := none) (S' := q1) mX9_needItem 9 [.int a1] dX9_meanValue_2 kX9_137 fX9_needItem iX9_needItem ⟨by decide, by decide⟩ rfl rfl rfl (Nat.le_of_ble_eq_true rfl) (og e2) (mc1 := 1) (ms1 := 6) (mc2 := 0) (ms2 := 0) (by decide) (by decide) (C_X9_needItem S a0 a1 (.inl q1) e2 (qR_mk _ _)) ?_
    refine r_aload_n (pc := 5) dX9_meanValue_5 rfl ?_
    replace hf := obind hf
    obtain ⟨x3, e4, hf⟩ := hf
    refine q_getA (pc := 6) dX9_meanValue_6 gX9_25 e4 ?_
    refine r_iload_n (pc := 9) dX9_meanValue_9 rfl ?_
    replace hf := obind hf
    obtain ⟨q5, e6, hf⟩ := hf
    refine q_callV (pc := 10) (v := some (.long q5)) (S' := q1) mX6_familyOf 6 [.int a1] dX9_meanValue_10 kX9_198 fX6_familyOf iX6_familyOf ⟨by decide, by decide⟩ rfl rfl rfl (Nat.le_of_ble_eq_true rfl) (og e6) (mc1 := 0) (ms1 := 0) (mc2 := 0) (ms2 := 0) (by decide) (by decide) (C_X6_familyOf q1 x3 a1 q5 e6 (qR_mk _ _)) ?_
    change gW _ _ _ _ (.long q5 :: _) _ _ _ _ _
    refine r_lstore_n (pc := 13) dX9_meanValue_13 (by decide) ?_
    change gW _ _ _ [some (.ref a0), some (.int a1), some (.long q5), none, none] _ _ _ _ _ _
    refine r_lload_n (pc := 14) dX9_meanValue_14 rfl ?_
    replace hf := obind hf
    obtain ⟨q7, e8, hf⟩ := hf
    refine q_callS (pc := 15) (v := some (.int q7)) (S' := q1) mJ13_bitCount_95d88 [.long q5] dX9_meanValue_15 kX9_289 fJ13_bitCount_95d88 sJ13_bitCount_95d88 ⟨by decide, by decide⟩ rfl rfl (Nat.le_of_ble_eq_true rfl) (mc1 := 0) (ms1 := 0) (mc2 := 0) (ms2 := 0) (by decide) (by decide) (C_J13_bitCount_95d88 q1 q5 q7 e8 (qR_mk _ _)) ?_
    change gW _ _ _ _ (.int q7 :: _) _ _ _ _ _
    refine r_istore (pc := 18) dX9_meanValue_18 (by decide) ?_
    change gW _ _ _ [some (.ref a0), some (.int a1), some (.long q5), none, some (.int q7)] _ _ _ _ _ _
    refine r_iload (pc := 20) dX9_meanValue_20 rfl ?_
    refine r_if_ne (pc := 22) 29 dX9_meanValue_22 (by decide) (fun hc => ?_) (fun hc => ?_)
    · rw [if_pos hc] at hf
      refine r_aload_n (pc := 29) dX9_meanValue_29 rfl ?_
      replace hf := obind hf
      obtain ⟨x9, e10, hf⟩ := hf
      refine q_getA (pc := 30) dX9_meanValue_30 gX9_12 e10 ?_
      refine r_lload_n (pc := 33) dX9_meanValue_33 rfl ?_
      replace hf := obind hf
      obtain ⟨q11, e12, hf⟩ := hf
      refine q_callV (pc := 34) (v := some (.int q11)) (S' := q1) mX8_sumOf 8 [.long q5] dX9_meanValue_34 kX9_294 fX8_sumOf iX8_sumOf ⟨by decide, by decide⟩ rfl rfl rfl (Nat.le_of_ble_eq_true rfl) (og e12) (mc1 := 0) (ms1 := 0) (mc2 := 0) (ms2 := 0) (by decide) (by decide) (C_X8_sumOf q1 x9 q5 q11 e12 (qR_mk _ _)) ?_
      change gW _ _ _ _ (.int q11 :: _) _ _ _ _ _
      refine r_i2d (pc := 37) dX9_meanValue_37 ?_
      refine r_iload (pc := 38) dX9_meanValue_38 rfl ?_
      refine r_i2d (pc := 40) dX9_meanValue_40 ?_
      replace hf := obind hf
      obtain ⟨x13, e14, hf⟩ := hf
      refine q_ddiv (pc := 41) dX9_meanValue_41 e14 ?_
      refine r_dreturn (pc := 42) dX9_meanValue_42 rfl ?_
      cases hf
      exact hk
    · rw [if_neg hc] at hf
      refine r_dconst0 (pc := 25) dX9_meanValue_25 ?_
      refine r_goto (pc := 26) 42 dX9_meanValue_26 (by decide) ?_
      refine r_dreturn (pc := 42) dX9_meanValue_42 rfl ?_
      cases hf
      exact hk
  · simp only [Sum.elim_inl, Sum.elim_inr] at hf
    refine q_callVt (pc := 2) (E := q1.1) (S' := q1.2) mX9_needItem 9 [.int a1] dX9_meanValue_2 kX9_137 fX9_needItem iX9_needItem ⟨by decide, by decide⟩ rfl rfl rfl (Nat.le_of_ble_eq_true rfl) (og e2) (mc1 := 1) (ms1 := 6) (by decide) (by decide) (C_X9_needItem S a0 a1 (.inr q1) e2 (qX_mk _ _)) ?_
    cases hf
    exact hk
def F_X9_hoist (S : pS) (a0 : Nat) (a1 : Int32) : Option ((Int32 × pS) ⊕ (String × pS)) := (oF S a0 9).bind fun _ => (F_X9_needItem S a0 a1).bind fun q1 => Sum.elim (fun q1 => (oGA q1 a0 9 6).bind fun x3 => (F_X4_size q1 x3).bind fun q5 => if q5 < (4 : Int32) then ((oGA q1 a0 9 6).bind fun x7 => (F_X4_push q1 x7 a1).bind fun q9 => (oGA q9 a0 9 6).bind fun x11 => (F_X4_size q9 x11).bind fun q13 => some (.inl (q13, q9))) else (some (.inr ("java/lang/IllegalStateException", q1)))) (fun q1 => some (.inr q1)) q1
set_option maxRecDepth 100000 in
set_option maxHeartbeats 4000000 in
theorem C_X9_hoist {X : pX} {Q : pO → Nat → pF → Prop} (S : pS) (a0 : Nat) (a1 : Int32) (r : (Int32 × pS) ⊕ (String × pS)) (hf : F_X9_hoist S a0 a1 = some r) (hk : Sum.elim (fun q => Q (.inl (some (.int q.1))) q.2.1 q.2.2) (fun q => ∀ n', q.2.1 ≤ n' → Q (.inr q.1) n' (gjunk q.2.2 q.2.1)) r) : gC X mX9_hoist [.ref a0, .int a1] S.1 S.2 Q 2 12 := by
  refine gC_of (by decide) (Nat.le_of_ble_eq_true rfl) rfl ?_
  change gW _ _ _ [some (.ref a0), some (.int a1)] _ _ _ _ _ _
  unfold F_X9_hoist at hf
  obtain ⟨_, _, hf⟩ := obind hf
  refine r_aload_n (pc := 0) dX9_hoist_0 rfl ?_
  refine r_iload_n (pc := 1) dX9_hoist_1 rfl ?_
  replace hf := obind hf
  obtain ⟨q1, e2, hf⟩ := hf
  rcases q1 with q1 | q1
  · simp only [Sum.elim_inl, Sum.elim_inr] at hf
    refine q_callV (pc := 2) (v := none) (S' := q1) mX9_needItem 9 [.int a1] dX9_hoist_2 kX9_137 fX9_needItem iX9_needItem ⟨by decide, by decide⟩ rfl rfl rfl (Nat.le_of_ble_eq_true rfl) (og e2) (mc1 := 1) (ms1 := 6) (mc2 := 1) (ms2 := 6) (by decide) (by decide) (C_X9_needItem S a0 a1 (.inl q1) e2 (qR_mk _ _)) ?_
    refine r_aload_n (pc := 5) dX9_hoist_5 rfl ?_
    replace hf := obind hf
    obtain ⟨x3, e4, hf⟩ := hf
    refine q_getA (pc := 6) dX9_hoist_6 gX9_42 e4 ?_
    replace hf := obind hf
    obtain ⟨q5, e6, hf⟩ := hf
    refine q_callV (pc := 9) (v := some (.int q5)) (S' := q1) mX4_size 4 [] dX9_hoist_9 kX9_327 fX4_size iX4_size ⟨by decide, by decide⟩ rfl rfl rfl (Nat.le_of_ble_eq_true rfl) (og e6) (mc1 := 0) (ms1 := 0) (mc2 := 1) (ms2 := 6) (by decide) (by decide) (C_X4_size q1 x3 q5 e6 (qR_mk _ _)) ?_
    change gW _ _ _ _ (.int q5 :: _) _ _ _ _ _
    refine r_iconst (pc := 12) (4 : Int32) dX9_hoist_12 (by decide) ?_
    refine r_icmp_lt (pc := 13) 27 dX9_hoist_13 (by decide) (fun hc => ?_) (fun hc => ?_)
    · rw [if_pos hc] at hf
      refine r_aload_n (pc := 27) dX9_hoist_27 rfl ?_
      replace hf := obind hf
      obtain ⟨x7, e8, hf⟩ := hf
      refine q_getA (pc := 28) dX9_hoist_28 gX9_42 e8 ?_
      refine r_iload_n (pc := 31) dX9_hoist_31 rfl ?_
      replace hf := obind hf
      obtain ⟨q9, e10, hf⟩ := hf
      refine q_callV (pc := 32) (v := none) (S' := q9) mX4_push 4 [.int a1] dX9_hoist_32 kX9_339 fX4_push iX4_push ⟨by decide, by decide⟩ rfl rfl rfl (Nat.le_of_ble_eq_true rfl) (og e10) (mc1 := 0) (ms1 := 0) (mc2 := 0) (ms2 := 0) (by decide) (by decide) (C_X4_push q1 x7 a1 q9 e10 (qR_mk _ _)) ?_
      refine r_aload_n (pc := 35) dX9_hoist_35 rfl ?_
      replace hf := obind hf
      obtain ⟨x11, e12, hf⟩ := hf
      refine q_getA (pc := 36) dX9_hoist_36 gX9_42 e12 ?_
      replace hf := obind hf
      obtain ⟨q13, e14, hf⟩ := hf
      refine q_callV (pc := 39) (v := some (.int q13)) (S' := q9) mX4_size 4 [] dX9_hoist_39 kX9_327 fX4_size iX4_size ⟨by decide, by decide⟩ rfl rfl rfl (Nat.le_of_ble_eq_true rfl) (og e14) (mc1 := 0) (ms1 := 0) (mc2 := 0) (ms2 := 0) (by decide) (by decide) (C_X4_size q9 x11 q13 e14 (qR_mk _ _)) ?_
      change gW _ _ _ _ (.int q13 :: _) _ _ _ _ _
      refine r_ireturn (pc := 42) .int dX9_hoist_42 rfl rfl ?_
      cases hf
      exact hk
    · rw [if_neg hc] at hf
      refine r_throwW (pc := 16) "java/lang/IllegalStateException" 22 dX9_hoist_16 dX9_hoist_19 dX9_hoist_20 dX9_hoist_23 dX9_hoist_26 xX9_125_129 rfl ⟨by decide, Nat.le_of_ble_eq_true rfl⟩ (by decide) (by decide) ?_
      cases hf
      exact hk
  · simp only [Sum.elim_inl, Sum.elim_inr] at hf
    refine q_callVt (pc := 2) (E := q1.1) (S' := q1.2) mX9_needItem 9 [.int a1] dX9_hoist_2 kX9_137 fX9_needItem iX9_needItem ⟨by decide, by decide⟩ rfl rfl rfl (Nat.le_of_ble_eq_true rfl) (og e2) (mc1 := 1) (ms1 := 6) (by decide) (by decide) (C_X9_needItem S a0 a1 (.inr q1) e2 (qX_mk _ _)) ?_
    cases hf
    exact hk
def F_X9_unhoist (S : pS) (a0 : Nat) : Option ((Int32 × pS) ⊕ (String × pS)) := (oF S a0 9).bind fun _ => (oGA S a0 9 6).bind fun x1 => (F_X4_size S x1).bind fun q3 => if ¬ q3 = 0 then ((oGA S a0 9 6).bind fun x5 => (F_X4_pop S x5).bind fun q7 => (oGA q7 a0 9 6).bind fun x9 => (F_X4_top q7 x9).bind fun q11 => some (.inl (q11, q7))) else (some (.inr ("java/lang/IllegalStateException", S)))
set_option maxRecDepth 100000 in
set_option maxHeartbeats 4000000 in
theorem C_X9_unhoist {X : pX} {Q : pO → Nat → pF → Prop} (S : pS) (a0 : Nat) (r : (Int32 × pS) ⊕ (String × pS)) (hf : F_X9_unhoist S a0 = some r) (hk : Sum.elim (fun q => Q (.inl (some (.int q.1))) q.2.1 q.2.2) (fun q => ∀ n', q.2.1 ≤ n' → Q (.inr q.1) n' (gjunk q.2.2 q.2.1)) r) : gC X mX9_unhoist [.ref a0] S.1 S.2 Q 1 6 := by
  refine gC_of (by decide) (Nat.le_of_ble_eq_true rfl) rfl ?_
  change gW _ _ _ [some (.ref a0)] _ _ _ _ _ _
  unfold F_X9_unhoist at hf
  obtain ⟨_, _, hf⟩ := obind hf
  refine r_aload_n (pc := 0) dX9_unhoist_0 rfl ?_
  replace hf := obind hf
  obtain ⟨x1, e2, hf⟩ := hf
  refine q_getA (pc := 1) dX9_unhoist_1 gX9_42 e2 ?_
  replace hf := obind hf
  obtain ⟨q3, e4, hf⟩ := hf
  refine q_callV (pc := 4) (v := some (.int q3)) (S' := S) mX4_size 4 [] dX9_unhoist_4 kX9_327 fX4_size iX4_size ⟨by decide, by decide⟩ rfl rfl rfl (Nat.le_of_ble_eq_true rfl) (og e4) (mc1 := 0) (ms1 := 0) (mc2 := 1) (ms2 := 6) (by decide) (by decide) (C_X4_size S x1 q3 e4 (qR_mk _ _)) ?_
  change gW _ _ _ _ (.int q3 :: _) _ _ _ _ _
  refine r_if_ne (pc := 7) 21 dX9_unhoist_7 (by decide) (fun hc => ?_) (fun hc => ?_)
  · rw [if_pos hc] at hf
    refine r_aload_n (pc := 21) dX9_unhoist_21 rfl ?_
    replace hf := obind hf
    obtain ⟨x5, e6, hf⟩ := hf
    refine q_getA (pc := 22) dX9_unhoist_22 gX9_42 e6 ?_
    replace hf := obind hf
    obtain ⟨q7, e8, hf⟩ := hf
    refine q_callV (pc := 25) (v := none) (S' := q7) mX4_pop 4 [] dX9_unhoist_25 kX9_344 fX4_pop iX4_pop ⟨by decide, by decide⟩ rfl rfl rfl (Nat.le_of_ble_eq_true rfl) (og e8) (mc1 := 0) (ms1 := 0) (mc2 := 0) (ms2 := 0) (by decide) (by decide) (C_X4_pop S x5 q7 e8 (qR_mk _ _)) ?_
    refine r_aload_n (pc := 28) dX9_unhoist_28 rfl ?_
    replace hf := obind hf
    obtain ⟨x9, e10, hf⟩ := hf
    refine q_getA (pc := 29) dX9_unhoist_29 gX9_42 e10 ?_
    replace hf := obind hf
    obtain ⟨q11, e12, hf⟩ := hf
    refine q_callV (pc := 32) (v := some (.int q11)) (S' := q7) mX4_top 4 [] dX9_unhoist_32 kX9_324 fX4_top iX4_top ⟨by decide, by decide⟩ rfl rfl rfl (Nat.le_of_ble_eq_true rfl) (og e12) (mc1 := 0) (ms1 := 0) (mc2 := 0) (ms2 := 0) (by decide) (by decide) (C_X4_top q7 x9 q11 e12 (qR_mk _ _)) ?_
    change gW _ _ _ _ (.int q11 :: _) _ _ _ _ _
    refine r_ireturn (pc := 35) .int dX9_unhoist_35 rfl rfl ?_
    cases hf
    exact hk
  · rw [if_neg hc] at hf
    refine r_throwW (pc := 10) "java/lang/IllegalStateException" 23 dX9_unhoist_10 dX9_unhoist_13 dX9_unhoist_14 dX9_unhoist_17 dX9_unhoist_20 xX9_125_129 rfl ⟨by decide, Nat.le_of_ble_eq_true rfl⟩ (by decide) (by decide) ?_
    cases hf
    exact hk
def F_X9_filter_40 (S : pS) (l0 : Nat) : Option ((Int32 × pS) ⊕ (String × pS)) := (oGA S l0 9 10).bind fun x11 => (F_X7_forget S x11).bind fun q13 => (oGA q13 l0 9 7).bind fun x15 => (oGA q13 l0 9 8).bind fun x17 => (oPA q13 l0 9 7 x17).bind fun S19 => (oPA S19 l0 9 8 x15).bind fun S21 => (F_X9_countLines S21 l0).bind fun q23 => some (.inl (q23.1, q23.2))
set_option maxRecDepth 100000 in
set_option maxHeartbeats 4000000 in
theorem W_X9_filter_40 {X : pX} {Q : pO → Nat → pF → Prop} (S : pS) (l0 : Nat) (r : (Int32 × pS) ⊕ (String × pS)) (hf : F_X9_filter_40 S l0 = some r) (hk : Sum.elim (fun q => Q (.inl (some (.int q.1))) q.2.1 q.2.2) (fun q => ∀ n', q.2.1 ≤ n' → Q (.inr q.1) n' (gjunk q.2.2 q.2.1)) r) : gW X mX9_filter 40 [some (.ref l0), none] [] S.1 S.2 Q 0 0 := by
  unfold F_X9_filter_40 at hf
  refine r_aload_n (pc := 40) dX9_filter_40 rfl ?_
  replace hf := obind hf
  obtain ⟨x11, e12, hf⟩ := hf
  refine q_getA (pc := 41) dX9_filter_41 gX9_66 e12 ?_
  replace hf := obind hf
  obtain ⟨q13, e14, hf⟩ := hf
  refine q_callV (pc := 44) (v := none) (S' := q13) mX7_forget 7 [] dX9_filter_44 kX9_354 fX7_forget iX7_forget ⟨by decide, by decide⟩ rfl rfl rfl (Nat.le_of_ble_eq_true rfl) (og e14) (mc1 := 0) (ms1 := 0) (mc2 := 0) (ms2 := 0) (by decide) (by decide) (C_X7_forget S x11 q13 e14 (qR_mk _ _)) ?_
  refine r_aload_n (pc := 47) dX9_filter_47 rfl ?_
  replace hf := obind hf
  obtain ⟨x15, e16, hf⟩ := hf
  refine q_getA (pc := 48) dX9_filter_48 gX9_49 e16 ?_
  refine r_astore_n (pc := 51) dX9_filter_51 (by decide) ?_
  change gW _ _ _ [some (.ref l0), some (.ref x15)] _ _ _ _ _ _
  refine r_aload_n (pc := 52) dX9_filter_52 rfl ?_
  refine r_aload_n (pc := 53) dX9_filter_53 rfl ?_
  replace hf := obind hf
  obtain ⟨x17, e18, hf⟩ := hf
  refine q_getA (pc := 54) dX9_filter_54 gX9_53 e18 ?_
  replace hf := obind hf
  obtain ⟨S19, e20, hf⟩ := hf
  refine q_putA (pc := 57) dX9_filter_57 pX9_49 (Or.inl ⟨_, rfl⟩) e20 ?_
  refine r_aload_n (pc := 60) dX9_filter_60 rfl ?_
  refine r_aload_n (pc := 61) dX9_filter_61 rfl ?_
  replace hf := obind hf
  obtain ⟨S21, e22, hf⟩ := hf
  refine q_putA (pc := 62) dX9_filter_62 pX9_53 (Or.inl ⟨_, rfl⟩) e22 ?_
  refine r_aload_n (pc := 65) dX9_filter_65 rfl ?_
  replace hf := obind hf
  obtain ⟨q23, e24, hf⟩ := hf
  refine q_callV (pc := 66) (v := some (.int q23.1)) (S' := q23.2) mX9_countLines 9 [] dX9_filter_66 kX9_218 fX9_countLines iX9_countLines ⟨by decide, by decide⟩ rfl rfl rfl (Nat.le_of_ble_eq_true rfl) (og e24) (mc1 := 0) (ms1 := 0) (mc2 := 0) (ms2 := 0) (by decide) (by decide) (C_X9_countLines S21 l0 q23 e24 (qR_mk _ _)) ?_
  change gW _ _ _ _ (.int q23.1 :: _) _ _ _ _ _
  refine r_ireturn (pc := 69) .int dX9_filter_69 rfl rfl ?_
  cases hf
  exact hk
def F_X9_filter (S : pS) (a0 : Nat) : Option ((Int32 × pS) ⊕ (String × pS)) := (oF S a0 9).bind fun _ => (oGA S a0 9 10).bind fun x1 => (F_X7_size S x1).bind fun q3 => if ¬ q3 = 0 then ((oGA S a0 9 8).bind fun x5 => (oGA S a0 9 10).bind fun x7 => (F_X1_read S x5 x7).bind fun q9 => if ¬ q9.1 = 0 then (F_X9_filter_40 q9.2 a0) else ((F_X9_failText q9.2 a0).bind fun q25 => Sum.elim (fun q25 => F_X9_filter_40 q25 a0) (fun q25 => some (.inr q25)) q25)) else ((oGA S a0 9 7).bind fun x27 => (F_X1_forget S x27).bind fun q29 => (F_X9_countLines q29 a0).bind fun q31 => some (.inl (q31.1, q31.2)))
set_option maxRecDepth 100000 in
set_option maxHeartbeats 4000000 in
theorem C_X9_filter {X : pX} {Q : pO → Nat → pF → Prop} (S : pS) (a0 : Nat) (r : (Int32 × pS) ⊕ (String × pS)) (hf : F_X9_filter S a0 = some r) (hk : Sum.elim (fun q => Q (.inl (some (.int q.1))) q.2.1 q.2.2) (fun q => ∀ n', q.2.1 ≤ n' → Q (.inr q.1) n' (gjunk q.2.2 q.2.1)) r) : gC X mX9_filter [.ref a0] S.1 S.2 Q 1 6 := by
  refine gC_of (by decide) (Nat.le_of_ble_eq_true rfl) rfl ?_
  change gW _ _ _ [some (.ref a0), none] _ _ _ _ _ _
  unfold F_X9_filter at hf
  obtain ⟨_, _, hf⟩ := obind hf
  refine r_aload_n (pc := 0) dX9_filter_0 rfl ?_
  replace hf := obind hf
  obtain ⟨x1, e2, hf⟩ := hf
  refine q_getA (pc := 1) dX9_filter_1 gX9_66 e2 ?_
  replace hf := obind hf
  obtain ⟨q3, e4, hf⟩ := hf
  refine q_callV (pc := 4) (v := some (.int q3)) (S' := S) mX7_size 7 [] dX9_filter_4 kX9_134 fX7_size iX7_size ⟨by decide, by decide⟩ rfl rfl rfl (Nat.le_of_ble_eq_true rfl) (og e4) (mc1 := 0) (ms1 := 0) (mc2 := 1) (ms2 := 6) (by decide) (by decide) (C_X7_size S x1 q3 e4 (qR_mk _ _)) ?_
  change gW _ _ _ _ (.int q3 :: _) _ _ _ _ _
  refine r_if_ne (pc := 7) 22 dX9_filter_7 (by decide) (fun hc => ?_) (fun hc => ?_)
  · rw [if_pos hc] at hf
    refine r_aload_n (pc := 22) dX9_filter_22 rfl ?_
    replace hf := obind hf
    obtain ⟨x5, e6, hf⟩ := hf
    refine q_getA (pc := 23) dX9_filter_23 gX9_53 e6 ?_
    refine r_aload_n (pc := 26) dX9_filter_26 rfl ?_
    replace hf := obind hf
    obtain ⟨x7, e8, hf⟩ := hf
    refine q_getA (pc := 27) dX9_filter_27 gX9_66 e8 ?_
    replace hf := obind hf
    obtain ⟨q9, e10, hf⟩ := hf
    refine q_callV (pc := 30) (v := some (.int q9.1)) (S' := q9.2) mX1_read 1 [.ref x7] dX9_filter_30 kX9_347 fX1_read iX1_read ⟨by decide, by decide⟩ rfl rfl rfl (Nat.le_of_ble_eq_true rfl) (og e10) (mc1 := 0) (ms1 := 0) (mc2 := 1) (ms2 := 6) (by decide) (by decide) (C_X1_read S x5 x7 q9 e10 (qR_mk _ _)) ?_
    change gW _ _ _ _ (.int q9.1 :: _) _ _ _ _ _
    refine r_if_ne (pc := 33) 40 dX9_filter_33 (by decide) (fun hc => ?_) (fun hc => ?_)
    · rw [if_pos hc] at hf
      refine gW.mono (mc := 0) (ms := 0) ?_ (fun _ _ _ q => q) (by decide) (by decide)
      exact gW.weak (by simp [gle]) (W_X9_filter_40 q9.2 a0 r hf hk)
    · rw [if_neg hc] at hf
      refine r_aload_n (pc := 36) dX9_filter_36 rfl ?_
      replace hf := obind hf
      obtain ⟨q25, e26, hf⟩ := hf
      rcases q25 with q25 | q25
      · simp only [Sum.elim_inl, Sum.elim_inr] at hf
        refine q_callV (pc := 37) (v := none) (S' := q25) mX9_failText 9 [] dX9_filter_37 kX9_351 fX9_failText iX9_failText ⟨by decide, by decide⟩ rfl rfl rfl (Nat.le_of_ble_eq_true rfl) (og e26) (mc1 := 1) (ms1 := 6) (mc2 := 0) (ms2 := 0) (by decide) (by decide) (C_X9_failText q9.2 a0 (.inl q25) e26 (qR_mk _ _)) ?_
        refine gW.mono (mc := 0) (ms := 0) ?_ (fun _ _ _ q => q) (by decide) (by decide)
        exact gW.weak (by simp [gle]) (W_X9_filter_40 q25 a0 r hf hk)
      · simp only [Sum.elim_inl, Sum.elim_inr] at hf
        refine q_callVt (pc := 37) (E := q25.1) (S' := q25.2) mX9_failText 9 [] dX9_filter_37 kX9_351 fX9_failText iX9_failText ⟨by decide, by decide⟩ rfl rfl rfl (Nat.le_of_ble_eq_true rfl) (og e26) (mc1 := 1) (ms1 := 6) (by decide) (by decide) (C_X9_failText q9.2 a0 (.inr q25) e26 (qX_mk _ _)) ?_
        cases hf
        exact hk
  · rw [if_neg hc] at hf
    refine r_aload_n (pc := 10) dX9_filter_10 rfl ?_
    replace hf := obind hf
    obtain ⟨x27, e28, hf⟩ := hf
    refine q_getA (pc := 11) dX9_filter_11 gX9_49 e28 ?_
    replace hf := obind hf
    obtain ⟨q29, e30, hf⟩ := hf
    refine q_callV (pc := 14) (v := none) (S' := q29) mX1_forget 1 [] dX9_filter_14 kX9_110 fX1_forget iX1_forget ⟨by decide, by decide⟩ rfl rfl rfl (Nat.le_of_ble_eq_true rfl) (og e30) (mc1 := 0) (ms1 := 0) (mc2 := 0) (ms2 := 0) (by decide) (by decide) (C_X1_forget S x27 q29 e30 (qR_mk _ _)) ?_
    refine r_aload_n (pc := 17) dX9_filter_17 rfl ?_
    replace hf := obind hf
    obtain ⟨q31, e32, hf⟩ := hf
    refine q_callV (pc := 18) (v := some (.int q31.1)) (S' := q31.2) mX9_countLines 9 [] dX9_filter_18 kX9_218 fX9_countLines iX9_countLines ⟨by decide, by decide⟩ rfl rfl rfl (Nat.le_of_ble_eq_true rfl) (og e32) (mc1 := 0) (ms1 := 0) (mc2 := 0) (ms2 := 0) (by decide) (by decide) (C_X9_countLines q29 a0 q31 e32 (qR_mk _ _)) ?_
    change gW _ _ _ _ (.int q31.1 :: _) _ _ _ _ _
    refine r_ireturn (pc := 21) .int dX9_filter_21 rfl rfl ?_
    cases hf
    exact hk
def F_X9_line (S : pS) (a0 : Nat) (a1 : Int32) (a2 : Int32) : Option ((Int32 × pS) ⊕ (String × pS)) := (oF S a0 9).bind fun _ => (F_X9_countLines S a0).bind fun q1 => (F_X9_needLine q1.2 a0 a1 q1.1).bind fun q3 => Sum.elim (fun q3 => if a2 = (0 : Int32) then ((oGA q3 a0 9 9).bind fun x5 => (F_X5_itemOf q3 x5 a1).bind fun q7 => some (.inl (q7, q3))) else if a2 = (1 : Int32) then ((oGA q3 a0 9 9).bind fun x9 => (F_X5_depthOf q3 x9 a1).bind fun q11 => some (.inl (q11, q3))) else if a2 = (2 : Int32) then ((oGA q3 a0 9 9).bind fun x13 => (F_X5_itemAbove q3 x13 a1).bind fun q15 => some (.inl (q15, q3))) else if a2 = (3 : Int32) then ((oGA q3 a0 9 9).bind fun x17 => (F_X5_indexIn q3 x17 a1).bind fun q19 => some (.inl (q19, q3))) else if a2 = (4 : Int32) then ((oGA q3 a0 9 9).bind fun x21 => (oGA q3 a0 9 0).bind fun x23 => (F_X5_pathLength q3 x21 x23 a1).bind fun q25 => some (.inl (q25, q3))) else if a2 = (5 : Int32) then ((oGA q3 a0 9 7).bind fun x27 => (oGA q3 a0 9 0).bind fun x29 => (oGA q3 a0 9 3).bind fun x31 => (F_X1_fittingItems q3 x27 x29 x31).bind fun q33 => (oGA q3 a0 9 9).bind fun x35 => (F_X5_itemOf q3 x35 a1).bind fun q37 => (F_X9_contains q3 q33 q37).bind fun q39 => if q39 = 0 then (some (.inl ((0 : Int32), q3))) else (some (.inl ((1 : Int32), q3)))) else (some (.inr ("java/lang/IllegalArgumentException", q3)))) (fun q3 => some (.inr q3)) q3
set_option maxRecDepth 100000 in
set_option maxHeartbeats 4000000 in
theorem C_X9_line {X : pX} {Q : pO → Nat → pF → Prop} (S : pS) (a0 : Nat) (a1 : Int32) (a2 : Int32) (r : (Int32 × pS) ⊕ (String × pS)) (hf : F_X9_line S a0 a1 a2 = some r) (hk : Sum.elim (fun q => Q (.inl (some (.int q.1))) q.2.1 q.2.2) (fun q => ∀ n', q.2.1 ≤ n' → Q (.inr q.1) n' (gjunk q.2.2 q.2.1)) r) : gC X mX9_line [.ref a0, .int a1, .int a2] S.1 S.2 Q 2 12 := by
  refine gC_of (by decide) (Nat.le_of_ble_eq_true rfl) rfl ?_
  change gW _ _ _ [some (.ref a0), some (.int a1), some (.int a2)] _ _ _ _ _ _
  unfold F_X9_line at hf
  obtain ⟨_, _, hf⟩ := obind hf
  refine r_aload_n (pc := 0) dX9_line_0 rfl ?_
  refine r_iload_n (pc := 1) dX9_line_1 rfl ?_
  refine r_aload_n (pc := 2) dX9_line_2 rfl ?_
  replace hf := obind hf
  obtain ⟨q1, e2, hf⟩ := hf
  refine q_callV (pc := 3) (v := some (.int q1.1)) (S' := q1.2) mX9_countLines 9 [] dX9_line_3 kX9_218 fX9_countLines iX9_countLines ⟨by decide, by decide⟩ rfl rfl rfl (Nat.le_of_ble_eq_true rfl) (og e2) (mc1 := 0) (ms1 := 0) (mc2 := 2) (ms2 := 12) (by decide) (by decide) (C_X9_countLines S a0 q1 e2 (qR_mk _ _)) ?_
  change gW _ _ _ _ (.int q1.1 :: _) _ _ _ _ _
  replace hf := obind hf
  obtain ⟨q3, e4, hf⟩ := hf
  rcases q3 with q3 | q3
  · simp only [Sum.elim_inl, Sum.elim_inr] at hf
    refine q_callV (pc := 6) (v := none) (S' := q3) mX9_needLine 9 [.int a1, .int q1.1] dX9_line_6 kX9_221 fX9_needLine iX9_needLine ⟨by decide, by decide⟩ rfl rfl rfl (Nat.le_of_ble_eq_true rfl) (og e4) (mc1 := 1) (ms1 := 6) (mc2 := 1) (ms2 := 6) (by decide) (by decide) (C_X9_needLine q1.2 a0 a1 q1.1 (.inl q3) e4 (qR_mk _ _)) ?_
    refine r_iload_n (pc := 9) dX9_line_9 rfl ?_
    by_cases hc0 : a2 = (0 : Int32)
    · rw [if_pos hc0] at hf
      refine r_tableIn (pc := 10) 48 dX9_line_10 (by rw [hc0]; decide) (by rw [hc0]; decide) (off := 38) (by rw [hc0]; rfl) (by decide) ?_
      refine r_aload_n (pc := 48) dX9_line_48 rfl ?_
      replace hf := obind hf
      obtain ⟨x5, e6, hf⟩ := hf
      refine q_getA (pc := 49) dX9_line_49 gX9_59 e6 ?_
      refine r_iload_n (pc := 52) dX9_line_52 rfl ?_
      replace hf := obind hf
      obtain ⟨q7, e8, hf⟩ := hf
      refine q_callV (pc := 53) (v := some (.int q7)) (S' := q3) mX5_itemOf 5 [.int a1] dX9_line_53 kX9_244 fX5_itemOf iX5_itemOf ⟨by decide, by decide⟩ rfl rfl rfl (Nat.le_of_ble_eq_true rfl) (og e8) (mc1 := 0) (ms1 := 0) (mc2 := 0) (ms2 := 0) (by decide) (by decide) (C_X5_itemOf q3 x5 a1 q7 e8 (qR_mk _ _)) ?_
      change gW _ _ _ _ (.int q7 :: _) _ _ _ _ _
      refine r_ireturn (pc := 56) .int dX9_line_56 rfl rfl ?_
      cases hf
      exact hk
    rw [if_neg hc0] at hf
    by_cases hc1 : a2 = (1 : Int32)
    · rw [if_pos hc1] at hf
      refine r_tableIn (pc := 10) 57 dX9_line_10 (by rw [hc1]; decide) (by rw [hc1]; decide) (off := 47) (by rw [hc1]; rfl) (by decide) ?_
      refine r_aload_n (pc := 57) dX9_line_57 rfl ?_
      replace hf := obind hf
      obtain ⟨x9, e10, hf⟩ := hf
      refine q_getA (pc := 58) dX9_line_58 gX9_59 e10 ?_
      refine r_iload_n (pc := 61) dX9_line_61 rfl ?_
      replace hf := obind hf
      obtain ⟨q11, e12, hf⟩ := hf
      refine q_callV (pc := 62) (v := some (.int q11)) (S' := q3) mX5_depthOf 5 [.int a1] dX9_line_62 kX9_236 fX5_depthOf iX5_depthOf ⟨by decide, by decide⟩ rfl rfl rfl (Nat.le_of_ble_eq_true rfl) (og e12) (mc1 := 0) (ms1 := 0) (mc2 := 0) (ms2 := 0) (by decide) (by decide) (C_X5_depthOf q3 x9 a1 q11 e12 (qR_mk _ _)) ?_
      change gW _ _ _ _ (.int q11 :: _) _ _ _ _ _
      refine r_ireturn (pc := 65) .int dX9_line_65 rfl rfl ?_
      cases hf
      exact hk
    rw [if_neg hc1] at hf
    by_cases hc2 : a2 = (2 : Int32)
    · rw [if_pos hc2] at hf
      refine r_tableIn (pc := 10) 66 dX9_line_10 (by rw [hc2]; decide) (by rw [hc2]; decide) (off := 56) (by rw [hc2]; rfl) (by decide) ?_
      refine r_aload_n (pc := 66) dX9_line_66 rfl ?_
      replace hf := obind hf
      obtain ⟨x13, e14, hf⟩ := hf
      refine q_getA (pc := 67) dX9_line_67 gX9_59 e14 ?_
      refine r_iload_n (pc := 70) dX9_line_70 rfl ?_
      replace hf := obind hf
      obtain ⟨q15, e16, hf⟩ := hf
      refine q_callV (pc := 71) (v := some (.int q15)) (S' := q3) mX5_itemAbove 5 [.int a1] dX9_line_71 kX9_224 fX5_itemAbove iX5_itemAbove ⟨by decide, by decide⟩ rfl rfl rfl (Nat.le_of_ble_eq_true rfl) (og e16) (mc1 := 0) (ms1 := 0) (mc2 := 0) (ms2 := 0) (by decide) (by decide) (C_X5_itemAbove q3 x13 a1 q15 e16 (qR_mk _ _)) ?_
      change gW _ _ _ _ (.int q15 :: _) _ _ _ _ _
      refine r_ireturn (pc := 74) .int dX9_line_74 rfl rfl ?_
      cases hf
      exact hk
    rw [if_neg hc2] at hf
    by_cases hc3 : a2 = (3 : Int32)
    · rw [if_pos hc3] at hf
      refine r_tableIn (pc := 10) 75 dX9_line_10 (by rw [hc3]; decide) (by rw [hc3]; decide) (off := 65) (by rw [hc3]; rfl) (by decide) ?_
      refine r_aload_n (pc := 75) dX9_line_75 rfl ?_
      replace hf := obind hf
      obtain ⟨x17, e18, hf⟩ := hf
      refine q_getA (pc := 76) dX9_line_76 gX9_59 e18 ?_
      refine r_iload_n (pc := 79) dX9_line_79 rfl ?_
      replace hf := obind hf
      obtain ⟨q19, e20, hf⟩ := hf
      refine q_callV (pc := 80) (v := some (.int q19)) (S' := q3) mX5_indexIn 5 [.int a1] dX9_line_80 kX9_227 fX5_indexIn iX5_indexIn ⟨by decide, by decide⟩ rfl rfl rfl (Nat.le_of_ble_eq_true rfl) (og e20) (mc1 := 0) (ms1 := 0) (mc2 := 0) (ms2 := 0) (by decide) (by decide) (C_X5_indexIn q3 x17 a1 q19 e20 (qR_mk _ _)) ?_
      change gW _ _ _ _ (.int q19 :: _) _ _ _ _ _
      refine r_ireturn (pc := 83) .int dX9_line_83 rfl rfl ?_
      cases hf
      exact hk
    rw [if_neg hc3] at hf
    by_cases hc4 : a2 = (4 : Int32)
    · rw [if_pos hc4] at hf
      refine r_tableIn (pc := 10) 84 dX9_line_10 (by rw [hc4]; decide) (by rw [hc4]; decide) (off := 74) (by rw [hc4]; rfl) (by decide) ?_
      refine r_aload_n (pc := 84) dX9_line_84 rfl ?_
      replace hf := obind hf
      obtain ⟨x21, e22, hf⟩ := hf
      refine q_getA (pc := 85) dX9_line_85 gX9_59 e22 ?_
      refine r_aload_n (pc := 88) dX9_line_88 rfl ?_
      replace hf := obind hf
      obtain ⟨x23, e24, hf⟩ := hf
      refine q_getA (pc := 89) dX9_line_89 gX9_12 e24 ?_
      refine r_iload_n (pc := 92) dX9_line_92 rfl ?_
      replace hf := obind hf
      obtain ⟨q25, e26, hf⟩ := hf
      refine q_callV (pc := 93) (v := some (.int q25)) (S' := q3) mX5_pathLength 5 [.ref x23, .int a1] dX9_line_93 kX9_355 fX5_pathLength iX5_pathLength ⟨by decide, by decide⟩ rfl rfl rfl (Nat.le_of_ble_eq_true rfl) (og e26) (mc1 := 0) (ms1 := 0) (mc2 := 0) (ms2 := 0) (by decide) (by decide) (C_X5_pathLength q3 x21 x23 a1 q25 e26 (qR_mk _ _)) ?_
      change gW _ _ _ _ (.int q25 :: _) _ _ _ _ _
      refine r_ireturn (pc := 96) .int dX9_line_96 rfl rfl ?_
      cases hf
      exact hk
    rw [if_neg hc4] at hf
    by_cases hc5 : a2 = (5 : Int32)
    · rw [if_pos hc5] at hf
      refine r_tableIn (pc := 10) 97 dX9_line_10 (by rw [hc5]; decide) (by rw [hc5]; decide) (off := 87) (by rw [hc5]; rfl) (by decide) ?_
      refine r_aload_n (pc := 97) dX9_line_97 rfl ?_
      replace hf := obind hf
      obtain ⟨x27, e28, hf⟩ := hf
      refine q_getA (pc := 98) dX9_line_98 gX9_49 e28 ?_
      refine r_aload_n (pc := 101) dX9_line_101 rfl ?_
      replace hf := obind hf
      obtain ⟨x29, e30, hf⟩ := hf
      refine q_getA (pc := 102) dX9_line_102 gX9_12 e30 ?_
      refine r_aload_n (pc := 105) dX9_line_105 rfl ?_
      replace hf := obind hf
      obtain ⟨x31, e32, hf⟩ := hf
      refine q_getA (pc := 106) dX9_line_106 gX9_25 e32 ?_
      replace hf := obind hf
      obtain ⟨q33, e34, hf⟩ := hf
      refine q_callV (pc := 109) (v := some (.long q33)) (S' := q3) mX1_fittingItems 1 [.ref x29, .ref x31] dX9_line_109 kX9_329 fX1_fittingItems iX1_fittingItems ⟨by decide, by decide⟩ rfl rfl rfl (Nat.le_of_ble_eq_true rfl) (og e34) (mc1 := 0) (ms1 := 0) (mc2 := 0) (ms2 := 0) (by decide) (by decide) (C_X1_fittingItems q3 x27 x29 x31 q33 e34 (qR_mk _ _)) ?_
      change gW _ _ _ _ (.long q33 :: _) _ _ _ _ _
      refine r_aload_n (pc := 112) dX9_line_112 rfl ?_
      replace hf := obind hf
      obtain ⟨x35, e36, hf⟩ := hf
      refine q_getA (pc := 113) dX9_line_113 gX9_59 e36 ?_
      refine r_iload_n (pc := 116) dX9_line_116 rfl ?_
      replace hf := obind hf
      obtain ⟨q37, e38, hf⟩ := hf
      refine q_callV (pc := 117) (v := some (.int q37)) (S' := q3) mX5_itemOf 5 [.int a1] dX9_line_117 kX9_244 fX5_itemOf iX5_itemOf ⟨by decide, by decide⟩ rfl rfl rfl (Nat.le_of_ble_eq_true rfl) (og e38) (mc1 := 0) (ms1 := 0) (mc2 := 0) (ms2 := 0) (by decide) (by decide) (C_X5_itemOf q3 x35 a1 q37 e38 (qR_mk _ _)) ?_
      change gW _ _ _ _ (.int q37 :: _) _ _ _ _ _
      replace hf := obind hf
      obtain ⟨q39, e40, hf⟩ := hf
      refine q_callS (pc := 120) (v := some (.int q39)) (S' := q3) mX9_contains [.long q33, .int q37] dX9_line_120 kX9_275 fX9_contains sX9_contains ⟨by decide, by decide⟩ rfl rfl (Nat.le_of_ble_eq_true rfl) (mc1 := 0) (ms1 := 0) (mc2 := 0) (ms2 := 0) (by decide) (by decide) (C_X9_contains q3 q33 q37 q39 e40 (qR_mk _ _)) ?_
      change gW _ _ _ _ (.int q39 :: _) _ _ _ _ _
      refine r_if_eq (pc := 123) 130 dX9_line_123 (by decide) (fun hc => ?_) (fun hc => ?_)
      · rw [if_pos hc] at hf
        refine r_iconst (pc := 130) (0 : Int32) dX9_line_130 (by decide) ?_
        refine r_ireturn (pc := 131) .int dX9_line_131 rfl rfl ?_
        cases hf
        exact hk
      · rw [if_neg hc] at hf
        refine r_iconst (pc := 126) (1 : Int32) dX9_line_126 (by decide) ?_
        refine r_goto (pc := 127) 131 dX9_line_127 (by decide) ?_
        refine r_ireturn (pc := 131) .int dX9_line_131 rfl rfl ?_
        cases hf
        exact hk
    rw [if_neg hc5] at hf
    refine r_tableOut (pc := 10) 132 dX9_line_10 (by
      have := tsw_out a2 (0) 6 (fun j hj => by
        match j, hj with
        | 0, _ => exact hc0
        | 1, _ => exact hc1
        | 2, _ => exact hc2
        | 3, _ => exact hc3
        | 4, _ => exact hc4
        | 5, _ => exact hc5
        | j + 6, hj => exact absurd hj (by omega))
      simpa using this) (by decide) ?_
    refine r_throwW (pc := 132) "java/lang/IllegalArgumentException" 21 dX9_line_132 dX9_line_135 dX9_line_136 dX9_line_139 dX9_line_142 xX9_114_118 rfl ⟨by decide, Nat.le_of_ble_eq_true rfl⟩ (by decide) (by decide) ?_
    cases hf
    exact hk
  · simp only [Sum.elim_inl, Sum.elim_inr] at hf
    refine q_callVt (pc := 6) (E := q3.1) (S' := q3.2) mX9_needLine 9 [.int a1, .int q1.1] dX9_line_6 kX9_221 fX9_needLine iX9_needLine ⟨by decide, by decide⟩ rfl rfl rfl (Nat.le_of_ble_eq_true rfl) (og e4) (mc1 := 1) (ms1 := 6) (by decide) (by decide) (C_X9_needLine q1.2 a0 a1 q1.1 (.inr q3) e4 (qX_mk _ _)) ?_
    cases hf
    exact hk
def F_X9_path (S : pS) (a0 : Nat) (a1 : Int32) (a2 : Int32) : Option ((Int32 × pS) ⊕ (String × pS)) := (oF S a0 9).bind fun _ => (F_X9_countLines S a0).bind fun q1 => (F_X9_needLine q1.2 a0 a1 q1.1).bind fun q3 => Sum.elim (fun q3 => (oGA q3 a0 9 9).bind fun x5 => (oGA q3 a0 9 0).bind fun x7 => (F_X5_pathLength q3 x5 x7 a1).bind fun q9 => (F_X9_needIndex q3 a0 a2 q9).bind fun q11 => Sum.elim (fun q11 => (oGA q11 a0 9 9).bind fun x13 => (oGA q11 a0 9 0).bind fun x15 => (F_X5_pathSign q11 x13 x15 a1 a2).bind fun q17 => (oC q17).bind fun x19 => some (.inl (x19, q11))) (fun q11 => some (.inr q11)) q11) (fun q3 => some (.inr q3)) q3
set_option maxRecDepth 100000 in
set_option maxHeartbeats 4000000 in
theorem C_X9_path {X : pX} {Q : pO → Nat → pF → Prop} (S : pS) (a0 : Nat) (a1 : Int32) (a2 : Int32) (r : (Int32 × pS) ⊕ (String × pS)) (hf : F_X9_path S a0 a1 a2 = some r) (hk : Sum.elim (fun q => Q (.inl (some (.int q.1))) q.2.1 q.2.2) (fun q => ∀ n', q.2.1 ≤ n' → Q (.inr q.1) n' (gjunk q.2.2 q.2.1)) r) : gC X mX9_path [.ref a0, .int a1, .int a2] S.1 S.2 Q 2 12 := by
  refine gC_of (by decide) (Nat.le_of_ble_eq_true rfl) rfl ?_
  change gW _ _ _ [some (.ref a0), some (.int a1), some (.int a2)] _ _ _ _ _ _
  unfold F_X9_path at hf
  obtain ⟨_, _, hf⟩ := obind hf
  refine r_aload_n (pc := 0) dX9_path_0 rfl ?_
  refine r_iload_n (pc := 1) dX9_path_1 rfl ?_
  refine r_aload_n (pc := 2) dX9_path_2 rfl ?_
  replace hf := obind hf
  obtain ⟨q1, e2, hf⟩ := hf
  refine q_callV (pc := 3) (v := some (.int q1.1)) (S' := q1.2) mX9_countLines 9 [] dX9_path_3 kX9_218 fX9_countLines iX9_countLines ⟨by decide, by decide⟩ rfl rfl rfl (Nat.le_of_ble_eq_true rfl) (og e2) (mc1 := 0) (ms1 := 0) (mc2 := 2) (ms2 := 12) (by decide) (by decide) (C_X9_countLines S a0 q1 e2 (qR_mk _ _)) ?_
  change gW _ _ _ _ (.int q1.1 :: _) _ _ _ _ _
  replace hf := obind hf
  obtain ⟨q3, e4, hf⟩ := hf
  rcases q3 with q3 | q3
  · simp only [Sum.elim_inl, Sum.elim_inr] at hf
    refine q_callV (pc := 6) (v := none) (S' := q3) mX9_needLine 9 [.int a1, .int q1.1] dX9_path_6 kX9_221 fX9_needLine iX9_needLine ⟨by decide, by decide⟩ rfl rfl rfl (Nat.le_of_ble_eq_true rfl) (og e4) (mc1 := 1) (ms1 := 6) (mc2 := 1) (ms2 := 6) (by decide) (by decide) (C_X9_needLine q1.2 a0 a1 q1.1 (.inl q3) e4 (qR_mk _ _)) ?_
    refine r_aload_n (pc := 9) dX9_path_9 rfl ?_
    refine r_iload_n (pc := 10) dX9_path_10 rfl ?_
    refine r_aload_n (pc := 11) dX9_path_11 rfl ?_
    replace hf := obind hf
    obtain ⟨x5, e6, hf⟩ := hf
    refine q_getA (pc := 12) dX9_path_12 gX9_59 e6 ?_
    refine r_aload_n (pc := 15) dX9_path_15 rfl ?_
    replace hf := obind hf
    obtain ⟨x7, e8, hf⟩ := hf
    refine q_getA (pc := 16) dX9_path_16 gX9_12 e8 ?_
    refine r_iload_n (pc := 19) dX9_path_19 rfl ?_
    replace hf := obind hf
    obtain ⟨q9, e10, hf⟩ := hf
    refine q_callV (pc := 20) (v := some (.int q9)) (S' := q3) mX5_pathLength 5 [.ref x7, .int a1] dX9_path_20 kX9_355 fX5_pathLength iX5_pathLength ⟨by decide, by decide⟩ rfl rfl rfl (Nat.le_of_ble_eq_true rfl) (og e10) (mc1 := 0) (ms1 := 0) (mc2 := 1) (ms2 := 6) (by decide) (by decide) (C_X5_pathLength q3 x5 x7 a1 q9 e10 (qR_mk _ _)) ?_
    change gW _ _ _ _ (.int q9 :: _) _ _ _ _ _
    replace hf := obind hf
    obtain ⟨q11, e12, hf⟩ := hf
    rcases q11 with q11 | q11
    · simp only [Sum.elim_inl, Sum.elim_inr] at hf
      refine q_callV (pc := 23) (v := none) (S' := q11) mX9_needIndex 9 [.int a2, .int q9] dX9_path_23 kX9_189 fX9_needIndex iX9_needIndex ⟨by decide, by decide⟩ rfl rfl rfl (Nat.le_of_ble_eq_true rfl) (og e12) (mc1 := 1) (ms1 := 6) (mc2 := 0) (ms2 := 0) (by decide) (by decide) (C_X9_needIndex q3 a0 a2 q9 (.inl q11) e12 (qR_mk _ _)) ?_
      refine r_aload_n (pc := 26) dX9_path_26 rfl ?_
      replace hf := obind hf
      obtain ⟨x13, e14, hf⟩ := hf
      refine q_getA (pc := 27) dX9_path_27 gX9_59 e14 ?_
      refine r_aload_n (pc := 30) dX9_path_30 rfl ?_
      replace hf := obind hf
      obtain ⟨x15, e16, hf⟩ := hf
      refine q_getA (pc := 31) dX9_path_31 gX9_12 e16 ?_
      refine r_iload_n (pc := 34) dX9_path_34 rfl ?_
      refine r_iload_n (pc := 35) dX9_path_35 rfl ?_
      replace hf := obind hf
      obtain ⟨q17, e18, hf⟩ := hf
      refine q_callV (pc := 36) (v := some (.int q17)) (S' := q11) mX5_pathSign 5 [.ref x15, .int a1, .int a2] dX9_path_36 kX9_358 fX5_pathSign iX5_pathSign ⟨by decide, by decide⟩ rfl rfl rfl (Nat.le_of_ble_eq_true rfl) (og e18) (mc1 := 0) (ms1 := 0) (mc2 := 0) (ms2 := 0) (by decide) (by decide) (C_X5_pathSign q11 x13 x15 a1 a2 q17 e18 (qR_mk _ _)) ?_
      change gW _ _ _ _ (.int q17 :: _) _ _ _ _ _
      replace hf := obind hf
      obtain ⟨x19, e20, hf⟩ := hf
      obtain ⟨e20a, e20b⟩ := oC_some e20
      rw [e20a] at hf
      refine r_ireturn (pc := 39) .char dX9_path_39 rfl e20b ?_
      cases hf
      exact hk
    · simp only [Sum.elim_inl, Sum.elim_inr] at hf
      refine q_callVt (pc := 23) (E := q11.1) (S' := q11.2) mX9_needIndex 9 [.int a2, .int q9] dX9_path_23 kX9_189 fX9_needIndex iX9_needIndex ⟨by decide, by decide⟩ rfl rfl rfl (Nat.le_of_ble_eq_true rfl) (og e12) (mc1 := 1) (ms1 := 6) (by decide) (by decide) (C_X9_needIndex q3 a0 a2 q9 (.inr q11) e12 (qX_mk _ _)) ?_
      cases hf
      exact hk
  · simp only [Sum.elim_inl, Sum.elim_inr] at hf
    refine q_callVt (pc := 6) (E := q3.1) (S' := q3.2) mX9_needLine 9 [.int a1, .int q1.1] dX9_path_6 kX9_221 fX9_needLine iX9_needLine ⟨by decide, by decide⟩ rfl rfl rfl (Nat.le_of_ble_eq_true rfl) (og e4) (mc1 := 1) (ms1 := 6) (by decide) (by decide) (C_X9_needLine q1.2 a0 a1 q1.1 (.inr q3) e4 (qX_mk _ _)) ?_
    cases hf
    exact hk
abbrev L_X9_lineOf_7 (l0 : Nat) (l1 : Int32) (l2 : Int32) (S : pS) : Int32 → List (Option Value) := fun a => [some (.ref l0), some (.int l1), some (.int l2), some (.int a)]
abbrev s_X9_lineOf_7 (l0 : Nat) (l1 : Int32) (l2 : Int32) (S : pS) : Int32 → pS := fun a => S
abbrev K_X9_lineOf_7 (X : pX) (Q : pO → Nat → pF → Prop) (mc ms : Nat) (l0 : Nat) (l1 : Int32) (l2 : Int32) (S : pS) : (Int32) ⊕ (Unit) → Prop := (Sum.elim (fun b => gW X mX9_lineOf 24 [some (.ref l0), some (.int l1), some (.int l2), some (.int b)] [] S.1 S.2 Q mc ms) (fun b => gW X mX9_lineOf 32 [some (.ref l0), some (.int l1), some (.int l2), none] [] S.1 S.2 Q mc ms))
def F_X9_lineOf_7 (l0 : Nat) (l1 : Int32) (l2 : Int32) (S : pS) : Int32 → Option ((Int32) ⊕ ((Int32) ⊕ (Unit))) := fun a => if l2 ≤ a then (some (.inr (.inr ()))) else ((oGA S l0 9 9).bind fun x3 => (F_X5_itemOf S x3 a).bind fun q5 => if ¬ q5 = l1 then (some (.inl (a + (1 : Int32)))) else (some (.inr (.inl a))))
set_option maxRecDepth 100000 in
set_option maxHeartbeats 4000000 in
theorem W_X9_lineOf_7 {X : pX} {Q : pO → Nat → pF → Prop} {mc ms : Nat} (l0 : Nat) (l1 : Int32) (l2 : Int32) (S : pS) : ∀ (a : Int32) (r : (Int32) ⊕ ((Int32) ⊕ (Unit))), F_X9_lineOf_7 l0 l1 l2 S a = some r → Sum.elim (fun a' => gW X mX9_lineOf 7 (L_X9_lineOf_7 l0 l1 l2 S a') [] (s_X9_lineOf_7 l0 l1 l2 S a').1 (s_X9_lineOf_7 l0 l1 l2 S a').2 Q mc ms) (K_X9_lineOf_7 X Q mc ms l0 l1 l2 S) r → gW X mX9_lineOf 7 (L_X9_lineOf_7 l0 l1 l2 S a) [] (s_X9_lineOf_7 l0 l1 l2 S a).1 (s_X9_lineOf_7 l0 l1 l2 S a).2 Q mc ms := by
  intro l3 r hf hk
  unfold F_X9_lineOf_7 at hf
  try dsimp only at hf
  change gW _ _ _ [some (.ref l0), some (.int l1), some (.int l2), some (.int l3)] _ S.1 S.2 _ _ _
  refine r_iload_n (pc := 7) dX9_lineOf_7 rfl ?_
  refine r_iload_n (pc := 8) dX9_lineOf_8 rfl ?_
  refine r_icmp_ge (pc := 9) 32 dX9_lineOf_9 (by decide) (fun hc => ?_) (fun hc => ?_)
  · rw [if_pos hc] at hf
    cases hf
    exact gW.weak (by simp [gle]) hk
  · rw [if_neg hc] at hf
    refine r_aload_n (pc := 12) dX9_lineOf_12 rfl ?_
    replace hf := obind hf
    obtain ⟨x3, e4, hf⟩ := hf
    refine q_getA (pc := 13) dX9_lineOf_13 gX9_59 e4 ?_
    refine r_iload_n (pc := 16) dX9_lineOf_16 rfl ?_
    replace hf := obind hf
    obtain ⟨q5, e6, hf⟩ := hf
    refine q_callV (pc := 17) (v := some (.int q5)) (S' := S) mX5_itemOf 5 [.int l3] dX9_lineOf_17 kX9_244 fX5_itemOf iX5_itemOf ⟨by decide, by decide⟩ rfl rfl rfl (Nat.le_of_ble_eq_true rfl) (og e6) (mc1 := 0) (ms1 := 0) (mc2 := mc) (ms2 := ms) (by omega) (by omega) (C_X5_itemOf S x3 l3 q5 e6 (qR_mk _ _)) ?_
    change gW _ _ _ _ (.int q5 :: _) _ _ _ _ _
    refine r_iload_n (pc := 20) dX9_lineOf_20 rfl ?_
    refine r_icmp_ne (pc := 21) 26 dX9_lineOf_21 (by decide) (fun hc => ?_) (fun hc => ?_)
    · rw [if_pos hc] at hf
      refine r_iinc (pc := 26) dX9_lineOf_26 rfl (by decide) ?_
      change gW _ _ _ [some (.ref l0), some (.int l1), some (.int l2), some (.int (l3 + (1 : Int32)))] _ _ _ _ _ _
      refine r_goto (pc := 29) 7 dX9_lineOf_29 (by decide) ?_
      cases hf
      exact gW.weak (by simp [gle]) hk
    · rw [if_neg hc] at hf
      cases hf
      exact gW.weak (by simp [gle]) hk
def F_X9_lineOf (S : pS) (a0 : Nat) (a1 : Int32) : Option (Int32 × pS) := (oF S a0 9).bind fun _ => (F_X9_countLines S a0).bind fun q1 => (iter (F_X9_lineOf_7 a0 a1 q1.1 q1.2) fu (0 : Int32)).bind fun r7 => Sum.elim (fun q9 => some (q9, q1.2)) (fun q9 => some ((-1 : Int32), q1.2)) r7
set_option maxRecDepth 100000 in
set_option maxHeartbeats 4000000 in
theorem C_X9_lineOf {X : pX} {Q : pO → Nat → pF → Prop} (S : pS) (a0 : Nat) (a1 : Int32) (r : Int32 × pS) (hf : F_X9_lineOf S a0 a1 = some r) (hk : Q (.inl (some (.int r.1))) r.2.1 r.2.2) : gC X mX9_lineOf [.ref a0, .int a1] S.1 S.2 Q 0 0 := by
  refine gC_of (by decide) (Nat.le_of_ble_eq_true rfl) rfl ?_
  change gW _ _ _ [some (.ref a0), some (.int a1), none, none] _ _ _ _ _ _
  unfold F_X9_lineOf at hf
  obtain ⟨_, _, hf⟩ := obind hf
  refine r_aload_n (pc := 0) dX9_lineOf_0 rfl ?_
  replace hf := obind hf
  obtain ⟨q1, e2, hf⟩ := hf
  refine q_callV (pc := 1) (v := some (.int q1.1)) (S' := q1.2) mX9_countLines 9 [] dX9_lineOf_1 kX9_218 fX9_countLines iX9_countLines ⟨by decide, by decide⟩ rfl rfl rfl (Nat.le_of_ble_eq_true rfl) (og e2) (mc1 := 0) (ms1 := 0) (mc2 := 0) (ms2 := 0) (by decide) (by decide) (C_X9_countLines S a0 q1 e2 (qR_mk _ _)) ?_
  change gW _ _ _ _ (.int q1.1 :: _) _ _ _ _ _
  refine r_istore_n (pc := 4) dX9_lineOf_4 (by decide) ?_
  change gW _ _ _ [some (.ref a0), some (.int a1), some (.int q1.1), none] _ _ _ _ _ _
  refine r_iconst (pc := 5) (0 : Int32) dX9_lineOf_5 (by decide) ?_
  refine r_istore_n (pc := 6) dX9_lineOf_6 (by decide) ?_
  change gW _ _ _ [some (.ref a0), some (.int a1), some (.int q1.1), some (.int (0 : Int32))] _ _ _ _ _ _
  replace hf := obind hf
  obtain ⟨r7, e8, hf⟩ := hf
  refine gW.weak (ls' := [some (.ref a0), some (.int a1), some (.int q1.1), some (.int (0 : Int32))]) (by simp [gle]) ?_
  refine g_iter (L := L_X9_lineOf_7 a0 a1 q1.1 q1.2) (s := s_X9_lineOf_7 a0 a1 q1.1 q1.2) (K := K_X9_lineOf_7 X Q _ _ a0 a1 q1.1 q1.2) (W_X9_lineOf_7 a0 a1 q1.1 q1.2) fu (0 : Int32) _ e8 ?_
  rcases r7 with q9 | q9
  · simp only [Sum.elim_inl, Sum.elim_inr] at hf
    show gW _ _ 24 [some (.ref a0), some (.int a1), some (.int q1.1), some (.int q9)] [] q1.2.1 q1.2.2 _ _ _
    refine r_iload_n (pc := 24) dX9_lineOf_24 rfl ?_
    refine r_ireturn (pc := 25) .int dX9_lineOf_25 rfl rfl ?_
    cases hf
    exact hk
  · simp only [Sum.elim_inl, Sum.elim_inr] at hf
    show gW _ _ 32 [some (.ref a0), some (.int a1), some (.int q1.1), none] [] q1.2.1 q1.2.2 _ _ _
    refine r_iconst (pc := 32) (-1 : Int32) dX9_lineOf_32 (by decide) ?_
    refine r_ireturn (pc := 33) .int dX9_lineOf_33 rfl rfl ?_
    cases hf
    exact hk
