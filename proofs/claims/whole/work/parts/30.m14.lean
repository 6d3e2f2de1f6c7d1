def F_X10_readsMarks_51 (S : pS) (l0 : Nat) (l1 : Int32) : Option (pS) := if l1 = 0 then (some S) else ((F_X10_skips S l0 (120 : Int32)).bind fun q5 => if q5.1 = 0 then (some q5.2) else ((oGA q5.2 l0 10 51).bind fun x7 => (oGI q5.2 l0 10 54).bind fun x9 => (oSI q5.2 x7 .int x9 (1 : Int32)).bind fun S11 => some S11))
set_option maxRecDepth 100000 in
set_option maxHeartbeats 4000000 in
theorem W_X10_readsMarks_51 {X : pX} {Q : pO → Nat → pF → Prop} (S : pS) (l0 : Nat) (l1 : Int32) (r : pS) (hf : F_X10_readsMarks_51 S l0 l1 = some r) (hk : Q (.inl none) r.1 r.2) : gW X mX10_readsMarks 51 [some (.ref l0), some (.int l1)] [] S.1 S.2 Q 0 0 := by
  unfold F_X10_readsMarks_51 at hf
  refine r_iload_n (pc := 51) dX10_readsMarks_51 rfl ?_
  refine r_if_eq (pc := 52) 74 dX10_readsMarks_52 (by decide) (fun hc => ?_) (fun hc => ?_)
  · rw [if_pos hc] at hf
    refine r_return (pc := 74) dX10_readsMarks_74 rfl ?_
    cases hf
    exact hk
  · rw [if_neg hc] at hf
    refine r_aload_n (pc := 55) dX10_readsMarks_55 rfl ?_
    refine r_bipush (pc := 56) (120 : Int32) dX10_readsMarks_56 (by decide) ?_
    replace hf := obind hf
    obtain ⟨q5, e6, hf⟩ := hf
    refine q_callV (pc := 58) (v := some (.int q5.1)) (S' := q5.2) mX10_skips 10 [.int (120 : Int32)] dX10_readsMarks_58 kX10_316 fX10_skips iX10_skips ⟨by decide, by decide⟩ rfl rfl rfl (Nat.le_of_ble_eq_true rfl) (og e6) (mc1 := 0) (ms1 := 0) (mc2 := 0) (ms2 := 0) (by decide) (by decide) (C_X10_skips S l0 (120 : Int32) q5 e6 (qR_mk _ _)) ?_
    change gW _ _ _ _ (.int q5.1 :: _) _ _ _ _ _
    refine r_if_eq (pc := 61) 74 dX10_readsMarks_61 (by decide) (fun hc => ?_) (fun hc => ?_)
    · rw [if_pos hc] at hf
      refine r_return (pc := 74) dX10_readsMarks_74 rfl ?_
      cases hf
      exact hk
    · rw [if_neg hc] at hf
      refine r_aload_n (pc := 64) dX10_readsMarks_64 rfl ?_
      replace hf := obind hf
      obtain ⟨x7, e8, hf⟩ := hf
      refine q_getA (pc := 65) dX10_readsMarks_65 gX10_127 e8 ?_
      refine r_aload_n (pc := 68) dX10_readsMarks_68 rfl ?_
      replace hf := obind hf
      obtain ⟨x9, e10, hf⟩ := hf
      refine q_getI (pc := 69) dX10_readsMarks_69 gX10_348 e10 ?_
      refine r_iconst (pc := 72) (1 : Int32) dX10_readsMarks_72 (by decide) ?_
      replace hf := obind hf
      obtain ⟨S11, e12, hf⟩ := hf
      refine q_iast (pc := 73) dX10_readsMarks_73 e12 ?_
      refine r_return (pc := 74) dX10_readsMarks_74 rfl ?_
      cases hf
      exact hk
def F_X10_readsMarks_27 (S : pS) (l0 : Nat) (l1 : Int32) : Option (pS) := (F_X10_skips S l0 (61 : Int32)).bind fun q3 => if q3.1 = 0 then (F_X10_readsMarks_51 q3.2 l0 l1) else ((oGA q3.2 l0 10 50).bind fun x13 => (oGI q3.2 l0 10 54).bind fun x15 => (F_X10_value q3.2 l0).bind fun q17 => (oSI q17.2 x13 .int x15 q17.1).bind fun S19 => F_X10_readsMarks_51 S19 l0 (1 : Int32))
set_option maxRecDepth 100000 in
set_option maxHeartbeats 4000000 in
theorem W_X10_readsMarks_27 {X : pX} {Q : pO → Nat → pF → Prop} (S : pS) (l0 : Nat) (l1 : Int32) (r : pS) (hf : F_X10_readsMarks_27 S l0 l1 = some r) (hk : Q (.inl none) r.1 r.2) : gW X mX10_readsMarks 27 [some (.ref l0), some (.int l1)] [] S.1 S.2 Q 0 0 := by
  unfold F_X10_readsMarks_27 at hf
  refine r_aload_n (pc := 27) dX10_readsMarks_27 rfl ?_
  refine r_bipush (pc := 28) (61 : Int32) dX10_readsMarks_28 (by decide) ?_
  replace hf := obind hf
  obtain ⟨q3, e4, hf⟩ := hf
  refine q_callV (pc := 30) (v := some (.int q3.1)) (S' := q3.2) mX10_skips 10 [.int (61 : Int32)] dX10_readsMarks_30 kX10_316 fX10_skips iX10_skips ⟨by decide, by decide⟩ rfl rfl rfl (Nat.le_of_ble_eq_true rfl) (og e4) (mc1 := 0) (ms1 := 0) (mc2 := 0) (ms2 := 0) (by decide) (by decide) (C_X10_skips S l0 (61 : Int32) q3 e4 (qR_mk _ _)) ?_
  change gW _ _ _ _ (.int q3.1 :: _) _ _ _ _ _
  refine r_if_eq (pc := 33) 51 dX10_readsMarks_33 (by decide) (fun hc => ?_) (fun hc => ?_)
  · rw [if_pos hc] at hf
    refine gW.mono (mc := 0) (ms := 0) ?_ (fun _ _ _ q => q) (by decide) (by decide)
    exact gW.weak (by simp [gle]) (W_X10_readsMarks_51 q3.2 l0 l1 r hf hk)
  · rw [if_neg hc] at hf
    refine r_aload_n (pc := 36) dX10_readsMarks_36 rfl ?_
    replace hf := obind hf
    obtain ⟨x13, e14, hf⟩ := hf
    refine q_getA (pc := 37) dX10_readsMarks_37 gX10_124 e14 ?_
    refine r_aload_n (pc := 40) dX10_readsMarks_40 rfl ?_
    replace hf := obind hf
    obtain ⟨x15, e16, hf⟩ := hf
    refine q_getI (pc := 41) dX10_readsMarks_41 gX10_348 e16 ?_
    refine r_aload_n (pc := 44) dX10_readsMarks_44 rfl ?_
    replace hf := obind hf
    obtain ⟨q17, e18, hf⟩ := hf
    refine q_callV (pc := 45) (v := some (.int q17.1)) (S' := q17.2) mX10_value 10 [] dX10_readsMarks_45 kX10_333 fX10_value iX10_value ⟨by decide, by decide⟩ rfl rfl rfl (Nat.le_of_ble_eq_true rfl) (og e18) (mc1 := 0) (ms1 := 0) (mc2 := 0) (ms2 := 0) (by decide) (by decide) (C_X10_value q3.2 l0 q17 e18 (qR_mk _ _)) ?_
    change gW _ _ _ _ (.int q17.1 :: _) _ _ _ _ _
    replace hf := obind hf
    obtain ⟨S19, e20, hf⟩ := hf
    refine q_iast (pc := 48) dX10_readsMarks_48 e20 ?_
    refine r_iconst (pc := 49) (1 : Int32) dX10_readsMarks_49 (by decide) ?_
    refine r_istore_n (pc := 50) dX10_readsMarks_50 (by decide) ?_
    change gW _ _ _ [some (.ref l0), some (.int (1 : Int32))] _ _ _ _ _ _
    refine gW.mono (mc := 0) (ms := 0) ?_ (fun _ _ _ q => q) (by decide) (by decide)
    exact gW.weak (by simp [gle]) (W_X10_readsMarks_51 S19 l0 (1 : Int32) r hf hk)
def F_X10_readsMarks (S : pS) (a0 : Nat) : Option (pS) := (oF S a0 10).bind fun _ => (F_X10_skips S a0 (64 : Int32)).bind fun q1 => if q1.1 = 0 then (F_X10_readsMarks_27 q1.2 a0 (0 : Int32)) else ((oGA q1.2 a0 10 49).bind fun x21 => (oGI q1.2 a0 10 54).bind fun x23 => (F_X10_number q1.2 a0 (4 : Int32)).bind fun q25 => (oSI q25.2 x21 .int x23 q25.1).bind fun S27 => F_X10_readsMarks_27 S27 a0 (1 : Int32))
set_option maxRecDepth 100000 in
set_option maxHeartbeats 4000000 in
theorem C_X10_readsMarks {X : pX} {Q : pO → Nat → pF → Prop} (S : pS) (a0 : Nat) (r : pS) (hf : F_X10_readsMarks S a0 = some r) (hk : Q (.inl none) r.1 r.2) : gC X mX10_readsMarks [.ref a0] S.1 S.2 Q 0 0 := by
  refine gC_of (by decide) (Nat.le_of_ble_eq_true rfl) rfl ?_
  change gW _ _ _ [some (.ref a0), none] _ _ _ _ _ _
  unfold F_X10_readsMarks at hf
  obtain ⟨_, _, hf⟩ := obind hf
  refine r_iconst (pc := 0) (0 : Int32) dX10_readsMarks_0 (by decide) ?_
  refine r_istore_n (pc := 1) dX10_readsMarks_1 (by decide) ?_
  change gW _ _ _ [some (.ref a0), some (.int (0 : Int32))] _ _ _ _ _ _
  refine r_aload_n (pc := 2) dX10_readsMarks_2 rfl ?_
  refine r_bipush (pc := 3) (64 : Int32) dX10_readsMarks_3 (by decide) ?_
  replace hf := obind hf
  obtain ⟨q1, e2, hf⟩ := hf
  refine q_callV (pc := 5) (v := some (.int q1.1)) (S' := q1.2) mX10_skips 10 [.int (64 : Int32)] dX10_readsMarks_5 kX10_316 fX10_skips iX10_skips ⟨by decide, by decide⟩ rfl rfl rfl (Nat.le_of_ble_eq_true rfl) (og e2) (mc1 := 0) (ms1 := 0) (mc2 := 0) (ms2 := 0) (by decide) (by decide) (C_X10_skips S a0 (64 : Int32) q1 e2 (qR_mk _ _)) ?_
  change gW _ _ _ _ (.int q1.1 :: _) _ _ _ _ _
  refine r_if_eq (pc := 8) 27 dX10_readsMarks_8 (by decide) (fun hc => ?_) (fun hc => ?_)
  · rw [if_pos hc] at hf
    refine gW.mono (mc := 0) (ms := 0) ?_ (fun _ _ _ q => q) (by decide) (by decide)
    exact gW.weak (by simp [gle]) (W_X10_readsMarks_27 q1.2 a0 (0 : Int32) r hf hk)
  · rw [if_neg hc] at hf
    refine r_aload_n (pc := 11) dX10_readsMarks_11 rfl ?_
    replace hf := obind hf
    obtain ⟨x21, e22, hf⟩ := hf
    refine q_getA (pc := 12) dX10_readsMarks_12 gX10_121 e22 ?_
    refine r_aload_n (pc := 15) dX10_readsMarks_15 rfl ?_
    replace hf := obind hf
    obtain ⟨x23, e24, hf⟩ := hf
    refine q_getI (pc := 16) dX10_readsMarks_16 gX10_348 e24 ?_
    refine r_aload_n (pc := 19) dX10_readsMarks_19 rfl ?_
    refine r_iconst (pc := 20) (4 : Int32) dX10_readsMarks_20 (by decide) ?_
    replace hf := obind hf
    obtain ⟨q25, e26, hf⟩ := hf
    refine q_callV (pc := 21) (v := some (.int q25.1)) (S' := q25.2) mX10_number 10 [.int (4 : Int32)] dX10_readsMarks_21 kX10_319 fX10_number iX10_number ⟨by decide, by decide⟩ rfl rfl rfl (Nat.le_of_ble_eq_true rfl) (og e26) (mc1 := 0) (ms1 := 0) (mc2 := 0) (ms2 := 0) (by decide) (by decide) (C_X10_number q1.2 a0 (4 : Int32) q25 e26 (qR_mk _ _)) ?_
    change gW _ _ _ _ (.int q25.1 :: _) _ _ _ _ _
    replace hf := obind hf
    obtain ⟨S27, e28, hf⟩ := hf
    refine q_iast (pc := 24) dX10_readsMarks_24 e28 ?_
    refine r_iconst (pc := 25) (1 : Int32) dX10_readsMarks_25 (by decide) ?_
    refine r_istore_n (pc := 26) dX10_readsMarks_26 (by decide) ?_
    change gW _ _ _ [some (.ref a0), some (.int (1 : Int32))] _ _ _ _ _ _
    refine gW.mono (mc := 0) (ms := 0) ?_ (fun _ _ _ q => q) (by decide) (by decide)
    exact gW.weak (by simp [gle]) (W_X10_readsMarks_27 S27 a0 (1 : Int32) r hf hk)
abbrev L_X10_readsEntry_7 (l0 : Nat) (l1 : Int32) : Int32 × pS → List (Option Value) := fun a => [some (.ref l0), some (.int l1), some (.int a.1), none]
abbrev s_X10_readsEntry_7 (l0 : Nat) (l1 : Int32) : Int32 × pS → pS := fun a => a.2
abbrev K_X10_readsEntry_7 (X : pX) (Q : pO → Nat → pF → Prop) (mc ms : Nat) (l0 : Nat) (l1 : Int32) : Int32 × pS → Prop := (fun b => gW X mX10_readsEntry 76 [some (.ref l0), some (.int l1), some (.int b.1), none] [] b.2.1 b.2.2 Q mc ms)
def F_X10_readsEntry_69 (l0 : Nat) (l1 : Int32) (S : pS) (l2 : Int32) (t0 : Nat) (t1 : Int32) (t2 : Int32) : Option ((Int32 × pS) ⊕ (Int32 × pS)) := (oPI S t0 10 21 (t1 + t2)).bind fun S15 => some (.inl (l2, S15))
set_option maxRecDepth 100000 in
set_option maxHeartbeats 4000000 in
theorem W_X10_readsEntry_69 {X : pX} {Q : pO → Nat → pF → Prop} {mc ms : Nat} (l0 : Nat) (l1 : Int32) (S : pS) (l2 : Int32) (t0 : Nat) (t1 : Int32) (t2 : Int32) (r : (Int32 × pS) ⊕ (Int32 × pS)) (hf : F_X10_readsEntry_69 l0 l1 S l2 t0 t1 t2 = some r) (hk : Sum.elim (fun a' => gW X mX10_readsEntry 7 (L_X10_readsEntry_7 l0 l1 a') [] (s_X10_readsEntry_7 l0 l1 a').1 (s_X10_readsEntry_7 l0 l1 a').2 Q mc ms) (K_X10_readsEntry_7 X Q mc ms l0 l1) r) : gW X mX10_readsEntry 69 [some (.ref l0), some (.int l1), some (.int l2), none] [.int t2, .int t1, .ref t0] S.1 S.2 Q mc ms := by
  unfold F_X10_readsEntry_69 at hf
  refine r_iadd (pc := 69) dX10_readsEntry_69 ?_
  replace hf := obind hf
  obtain ⟨S15, e16, hf⟩ := hf
  refine q_putI (pc := 70) dX10_readsEntry_70 pX10_199 rfl e16 ?_
  refine r_goto (pc := 73) 7 dX10_readsEntry_73 (by decide) ?_
  cases hf
  exact gW.weak (by simp [gle]) hk
def F_X10_readsEntry_50 (l0 : Nat) (l1 : Int32) (S : pS) (t0 : Int32) (t1 : Int32) : Option ((Int32 × pS) ⊕ (Int32 × pS)) := (oGI S l0 10 21).bind fun x11 => (oGI S l0 10 23).bind fun x13 => if x13 = 0 then (F_X10_readsEntry_69 l0 l1 S (t0 + t1) l0 x11 (0 : Int32)) else (F_X10_readsEntry_69 l0 l1 S (t0 + t1) l0 x11 (1 : Int32))
set_option maxRecDepth 100000 in
set_option maxHeartbeats 4000000 in
theorem W_X10_readsEntry_50 {X : pX} {Q : pO → Nat → pF → Prop} {mc ms : Nat} (l0 : Nat) (l1 : Int32) (S : pS) (t0 : Int32) (t1 : Int32) (r : (Int32 × pS) ⊕ (Int32 × pS)) (hf : F_X10_readsEntry_50 l0 l1 S t0 t1 = some r) (hk : Sum.elim (fun a' => gW X mX10_readsEntry 7 (L_X10_readsEntry_7 l0 l1 a') [] (s_X10_readsEntry_7 l0 l1 a').1 (s_X10_readsEntry_7 l0 l1 a').2 Q mc ms) (K_X10_readsEntry_7 X Q mc ms l0 l1) r) : gW X mX10_readsEntry 50 [some (.ref l0), some (.int l1), none, none] [.int t1, .int t0] S.1 S.2 Q mc ms := by
  unfold F_X10_readsEntry_50 at hf
  refine r_iadd (pc := 50) dX10_readsEntry_50 ?_
  refine r_istore_n (pc := 51) dX10_readsEntry_51 (by decide) ?_
  change gW _ _ _ [some (.ref l0), some (.int l1), some (.int (t0 + t1)), none] _ _ _ _ _ _
  refine r_aload_n (pc := 52) dX10_readsEntry_52 rfl ?_
  refine r_dup (pc := 53) dX10_readsEntry_53 rfl ?_
  replace hf := obind hf
  obtain ⟨x11, e12, hf⟩ := hf
  refine q_getI (pc := 54) dX10_readsEntry_54 gX10_199 e12 ?_
  refine r_aload_n (pc := 57) dX10_readsEntry_57 rfl ?_
  replace hf := obind hf
  obtain ⟨x13, e14, hf⟩ := hf
  refine q_getI (pc := 58) dX10_readsEntry_58 gX10_205 e14 ?_
  refine r_if_eq (pc := 61) 68 dX10_readsEntry_61 (by decide) (fun hc => ?_) (fun hc => ?_)
  · rw [if_pos hc] at hf
    refine r_iconst (pc := 68) (0 : Int32) dX10_readsEntry_68 (by decide) ?_
    exact gW.weak (by simp [gle]) (W_X10_readsEntry_69 l0 l1 S (t0 + t1) l0 x11 (0 : Int32) r hf hk)
  · rw [if_neg hc] at hf
    refine r_iconst (pc := 64) (1 : Int32) dX10_readsEntry_64 (by decide) ?_
    refine r_goto (pc := 65) 69 dX10_readsEntry_65 (by decide) ?_
    exact gW.weak (by simp [gle]) (W_X10_readsEntry_69 l0 l1 S (t0 + t1) l0 x11 (1 : Int32) r hf hk)
def F_X10_readsEntry_34 (l0 : Nat) (l1 : Int32) (S : pS) (l2 : Int32) (t0 : Nat) (t1 : Int32) : Option ((Int32 × pS) ⊕ (Int32 × pS)) := (oPZ S t0 10 23 t1).bind fun S7 => (oGI S7 l0 10 23).bind fun x9 => if x9 = 0 then (F_X10_readsEntry_50 l0 l1 S7 l2 (0 : Int32)) else (F_X10_readsEntry_50 l0 l1 S7 l2 (1 : Int32))
set_option maxRecDepth 100000 in
set_option maxHeartbeats 4000000 in
theorem W_X10_readsEntry_34 {X : pX} {Q : pO → Nat → pF → Prop} {mc ms : Nat} (l0 : Nat) (l1 : Int32) (S : pS) (l2 : Int32) (t0 : Nat) (t1 : Int32) (r : (Int32 × pS) ⊕ (Int32 × pS)) (hf : F_X10_readsEntry_34 l0 l1 S l2 t0 t1 = some r) (hk : Sum.elim (fun a' => gW X mX10_readsEntry 7 (L_X10_readsEntry_7 l0 l1 a') [] (s_X10_readsEntry_7 l0 l1 a').1 (s_X10_readsEntry_7 l0 l1 a').2 Q mc ms) (K_X10_readsEntry_7 X Q mc ms l0 l1) r) : gW X mX10_readsEntry 34 [some (.ref l0), some (.int l1), some (.int l2), none] [.int t1, .ref t0] S.1 S.2 Q mc ms := by
  unfold F_X10_readsEntry_34 at hf
  replace hf := obind hf
  obtain ⟨S7, e8, hf⟩ := hf
  refine q_putZ (pc := 34) dX10_readsEntry_34 pX10_205 rfl e8 ?_
  refine r_iload_n (pc := 37) dX10_readsEntry_37 rfl ?_
  refine r_aload_n (pc := 38) dX10_readsEntry_38 rfl ?_
  replace hf := obind hf
  obtain ⟨x9, e10, hf⟩ := hf
  refine q_getI (pc := 39) dX10_readsEntry_39 gX10_205 e10 ?_
  refine r_if_eq (pc := 42) 49 dX10_readsEntry_42 (by decide) (fun hc => ?_) (fun hc => ?_)
  · rw [if_pos hc] at hf
    refine r_iconst (pc := 49) (0 : Int32) dX10_readsEntry_49 (by decide) ?_
    exact gW.weak (by simp [gle]) (W_X10_readsEntry_50 l0 l1 S7 l2 (0 : Int32) r hf hk)
  · rw [if_neg hc] at hf
    refine r_iconst (pc := 45) (1 : Int32) dX10_readsEntry_45 (by decide) ?_
    refine r_goto (pc := 46) 50 dX10_readsEntry_46 (by decide) ?_
    exact gW.weak (by simp [gle]) (W_X10_readsEntry_50 l0 l1 S7 l2 (1 : Int32) r hf hk)
def F_X10_readsEntry_7 (l0 : Nat) (l1 : Int32) : Int32 × pS → Option ((Int32 × pS) ⊕ (Int32 × pS)) := fun a => (oGI a.2 l0 10 23).bind fun x3 => if x3 = 0 then (some (.inr (a.1, a.2))) else ((F_X10_here a.2 l0).bind fun q5 => if ¬ q5 = (46 : Int32) then (some (.inr (a.1, a.2))) else (if l1 ≤ a.1 then (F_X10_readsEntry_34 l0 l1 a.2 a.1 l0 (0 : Int32)) else (F_X10_readsEntry_34 l0 l1 a.2 a.1 l0 (1 : Int32))))
set_option maxRecDepth 100000 in
set_option maxHeartbeats 4000000 in
theorem W_X10_readsEntry_7 {X : pX} {Q : pO → Nat → pF → Prop} {mc ms : Nat} (l0 : Nat) (l1 : Int32) : ∀ (a : Int32 × pS) (r : (Int32 × pS) ⊕ (Int32 × pS)), F_X10_readsEntry_7 l0 l1 a = some r → Sum.elim (fun a' => gW X mX10_readsEntry 7 (L_X10_readsEntry_7 l0 l1 a') [] (s_X10_readsEntry_7 l0 l1 a').1 (s_X10_readsEntry_7 l0 l1 a').2 Q mc ms) (K_X10_readsEntry_7 X Q mc ms l0 l1) r → gW X mX10_readsEntry 7 (L_X10_readsEntry_7 l0 l1 a) [] (s_X10_readsEntry_7 l0 l1 a).1 (s_X10_readsEntry_7 l0 l1 a).2 Q mc ms := by
  intro a r hf hk
  obtain ⟨l2, S⟩ := a
  unfold F_X10_readsEntry_7 at hf
  try dsimp only at hf
  change gW _ _ _ [some (.ref l0), some (.int l1), some (.int l2), none] _ S.1 S.2 _ _ _
  refine r_aload_n (pc := 7) dX10_readsEntry_7 rfl ?_
  replace hf := obind hf
  obtain ⟨x3, e4, hf⟩ := hf
  refine q_getI (pc := 8) dX10_readsEntry_8 gX10_205 e4 ?_
  refine r_if_eq (pc := 11) 76 dX10_readsEntry_11 (by decide) (fun hc => ?_) (fun hc => ?_)
  · rw [if_pos hc] at hf
    cases hf
    exact gW.weak (by simp [gle]) hk
  · rw [if_neg hc] at hf
    refine r_aload_n (pc := 14) dX10_readsEntry_14 rfl ?_
    replace hf := obind hf
    obtain ⟨q5, e6, hf⟩ := hf
    refine q_callV (pc := 15) (v := some (.int q5)) (S' := S) mX10_here 10 [] dX10_readsEntry_15 kX10_209 fX10_here iX10_here ⟨by decide, by decide⟩ rfl rfl rfl (Nat.le_of_ble_eq_true rfl) (og e6) (mc1 := 0) (ms1 := 0) (mc2 := mc) (ms2 := ms) (by omega) (by omega) (C_X10_here S l0 q5 e6 (qR_mk _ _)) ?_
    change gW _ _ _ _ (.int q5 :: _) _ _ _ _ _
    refine r_bipush (pc := 18) (46 : Int32) dX10_readsEntry_18 (by decide) ?_
    refine r_icmp_ne (pc := 20) 76 dX10_readsEntry_20 (by decide) (fun hc => ?_) (fun hc => ?_)
    · rw [if_pos hc] at hf
      cases hf
      exact gW.weak (by simp [gle]) hk
    · rw [if_neg hc] at hf
      refine r_aload_n (pc := 23) dX10_readsEntry_23 rfl ?_
      refine r_iload_n (pc := 24) dX10_readsEntry_24 rfl ?_
      refine r_iload_n (pc := 25) dX10_readsEntry_25 rfl ?_
      refine r_icmp_ge (pc := 26) 33 dX10_readsEntry_26 (by decide) (fun hc => ?_) (fun hc => ?_)
      · rw [if_pos hc] at hf
        refine r_iconst (pc := 33) (0 : Int32) dX10_readsEntry_33 (by decide) ?_
        exact gW.weak (by simp [gle]) (W_X10_readsEntry_34 l0 l1 S l2 l0 (0 : Int32) r hf hk)
      · rw [if_neg hc] at hf
        refine r_iconst (pc := 29) (1 : Int32) dX10_readsEntry_29 (by decide) ?_
        refine r_goto (pc := 30) 34 dX10_readsEntry_30 (by decide) ?_
        exact gW.weak (by simp [gle]) (W_X10_readsEntry_34 l0 l1 S l2 l0 (1 : Int32) r hf hk)
def F_X10_readsEntry_245 (S : pS) (l0 : Nat) : Option (pS) := (oGI S l0 10 54).bind fun x71 => (oPI S l0 10 54 (x71 + (1 : Int32))).bind fun S73 => some S73
set_option maxRecDepth 100000 in
set_option maxHeartbeats 4000000 in
theorem W_X10_readsEntry_245 {X : pX} {Q : pO → Nat → pF → Prop} (S : pS) (l0 : Nat) (r : pS) (hf : F_X10_readsEntry_245 S l0 = some r) (hk : Q (.inl none) r.1 r.2) : gW X mX10_readsEntry 245 [some (.ref l0), none, none, none] [] S.1 S.2 Q 0 0 := by
  unfold F_X10_readsEntry_245 at hf
  refine r_aload_n (pc := 245) dX10_readsEntry_245 rfl ?_
  refine r_dup (pc := 246) dX10_readsEntry_246 rfl ?_
  replace hf := obind hf
  obtain ⟨x71, e72, hf⟩ := hf
  refine q_getI (pc := 247) dX10_readsEntry_247 gX10_348 e72 ?_
  refine r_iconst (pc := 250) (1 : Int32) dX10_readsEntry_250 (by decide) ?_
  refine r_iadd (pc := 251) dX10_readsEntry_251 ?_
  replace hf := obind hf
  obtain ⟨S73, e74, hf⟩ := hf
  refine q_putI (pc := 252) dX10_readsEntry_252 pX10_348 rfl e74 ?_
  refine r_return (pc := 255) dX10_readsEntry_255 rfl ?_
  cases hf
  exact hk
def F_X10_readsEntry_215 (S : pS) (l0 : Nat) : Option (pS) := (oGA S l0 10 47).bind fun x53 => (oGI S l0 10 54).bind fun x55 => (F_X10_letters S l0).bind fun q57 => (oSI q57.2 x53 .int x55 q57.1).bind fun S59 => (oGA S59 l0 10 48).bind fun x61 => (oGI S59 l0 10 54).bind fun x63 => (oGI S59 l0 10 21).bind fun x65 => (oSI S59 x61 .int x63 x65).bind fun S67 => (F_X10_readsMarks S67 l0).bind fun q69 => F_X10_readsEntry_245 q69 l0
set_option maxRecDepth 100000 in
set_option maxHeartbeats 4000000 in
theorem W_X10_readsEntry_215 {X : pX} {Q : pO → Nat → pF → Prop} (S : pS) (l0 : Nat) (r : pS) (hf : F_X10_readsEntry_215 S l0 = some r) (hk : Q (.inl none) r.1 r.2) : gW X mX10_readsEntry 215 [some (.ref l0), none, none, none] [] S.1 S.2 Q 0 0 := by
  unfold F_X10_readsEntry_215 at hf
  refine r_aload_n (pc := 215) dX10_readsEntry_215 rfl ?_
  replace hf := obind hf
  obtain ⟨x53, e54, hf⟩ := hf
  refine q_getA (pc := 216) dX10_readsEntry_216 gX10_115 e54 ?_
  refine r_aload_n (pc := 219) dX10_readsEntry_219 rfl ?_
  replace hf := obind hf
  obtain ⟨x55, e56, hf⟩ := hf
  refine q_getI (pc := 220) dX10_readsEntry_220 gX10_348 e56 ?_
  refine r_aload_n (pc := 223) dX10_readsEntry_223 rfl ?_
  replace hf := obind hf
  obtain ⟨q57, e58, hf⟩ := hf
  refine q_callV (pc := 224) (v := some (.int q57.1)) (S' := q57.2) mX10_letters 10 [] dX10_readsEntry_224 kX10_215 fX10_letters iX10_letters ⟨by decide, by decide⟩ rfl rfl rfl (Nat.le_of_ble_eq_true rfl) (og e58) (mc1 := 0) (ms1 := 0) (mc2 := 0) (ms2 := 0) (by decide) (by decide) (C_X10_letters S l0 q57 e58 (qR_mk _ _)) ?_
  change gW _ _ _ _ (.int q57.1 :: _) _ _ _ _ _
  replace hf := obind hf
  obtain ⟨S59, e60, hf⟩ := hf
  refine q_iast (pc := 227) dX10_readsEntry_227 e60 ?_
  refine r_aload_n (pc := 228) dX10_readsEntry_228 rfl ?_
  replace hf := obind hf
  obtain ⟨x61, e62, hf⟩ := hf
  refine q_getA (pc := 229) dX10_readsEntry_229 gX10_118 e62 ?_
  refine r_aload_n (pc := 232) dX10_readsEntry_232 rfl ?_
  replace hf := obind hf
  obtain ⟨x63, e64, hf⟩ := hf
  refine q_getI (pc := 233) dX10_readsEntry_233 gX10_348 e64 ?_
  refine r_aload_n (pc := 236) dX10_readsEntry_236 rfl ?_
  replace hf := obind hf
  obtain ⟨x65, e66, hf⟩ := hf
  refine q_getI (pc := 237) dX10_readsEntry_237 gX10_199 e66 ?_
  replace hf := obind hf
  obtain ⟨S67, e68, hf⟩ := hf
  refine q_iast (pc := 240) dX10_readsEntry_240 e68 ?_
  refine r_aload_n (pc := 241) dX10_readsEntry_241 rfl ?_
  replace hf := obind hf
  obtain ⟨q69, e70, hf⟩ := hf
  refine q_callV (pc := 242) (v := none) (S' := q69) mX10_readsMarks 10 [] dX10_readsEntry_242 kX10_354 fX10_readsMarks iX10_readsMarks ⟨by decide, by decide⟩ rfl rfl rfl (Nat.le_of_ble_eq_true rfl) (og e70) (mc1 := 0) (ms1 := 0) (mc2 := 0) (ms2 := 0) (by decide) (by decide) (C_X10_readsMarks S67 l0 q69 e70 (qR_mk _ _)) ?_
  refine gW.mono (mc := 0) (ms := 0) ?_ (fun _ _ _ q => q) (by decide) (by decide)
  exact gW.weak (by simp [gle]) (W_X10_readsEntry_245 q69 l0 r hf hk)
def F_X10_readsEntry_212 (S : pS) (l0 : Nat) : Option (pS) := F_X10_readsEntry_245 S l0
set_option maxRecDepth 100000 in
set_option maxHeartbeats 4000000 in
theorem W_X10_readsEntry_212 {X : pX} {Q : pO → Nat → pF → Prop} (S : pS) (l0 : Nat) (r : pS) (hf : F_X10_readsEntry_212 S l0 = some r) (hk : Q (.inl none) r.1 r.2) : gW X mX10_readsEntry 212 [some (.ref l0), none, none, none] [] S.1 S.2 Q 0 0 := by
  unfold F_X10_readsEntry_212 at hf
  refine r_goto (pc := 212) 245 dX10_readsEntry_212 (by decide) ?_
  refine gW.mono (mc := 0) (ms := 0) ?_ (fun _ _ _ q => q) (by decide) (by decide)
  exact gW.weak (by simp [gle]) (W_X10_readsEntry_245 S l0 r hf hk)
def F_X10_readsEntry_76 (S : pS) (l0 : Nat) (l2 : Int32) : Option (pS) := (oGI S l0 10 23).bind fun x19 => if ¬ x19 = 0 then ((oGA S l0 10 46).bind fun x21 => (oGI S l0 10 54).bind fun x23 => (oSI S x21 .int x23 l2).bind fun S25 => (oGA S25 l0 10 49).bind fun x27 => (oGI S25 l0 10 54).bind fun x29 => (oSI S25 x27 .int x29 (-1 : Int32)).bind fun S31 => (oGA S31 l0 10 50).bind fun x33 => (oGI S31 l0 10 54).bind fun x35 => (oSI S31 x33 .int x35 (0 : Int32)).bind fun S37 => (oGA S37 l0 10 51).bind fun x39 => (oGI S37 l0 10 54).bind fun x41 => (oSI S37 x39 .int x41 (0 : Int32)).bind fun S43 => (oGA S43 l0 10 52).bind fun x45 => (oGI S43 l0 10 54).bind fun x47 => (oSI S43 x45 .int x47 (-1 : Int32)).bind fun S49 => (F_X10_here S49 l0).bind fun q51 => if ¬ q51 = (42 : Int32) then (F_X10_readsEntry_215 S49 l0) else ((oGI S49 l0 10 54).bind fun x75 => if x75 ≤ 0 then (F_X10_readsEntry_215 S49 l0) else ((oGI S49 l0 10 21).bind fun x77 => (oPI S49 l0 10 21 (x77 + (1 : Int32))).bind fun S79 => (oGI S79 l0 10 21).bind fun x81 => (oGA S79 l0 10 52).bind fun x83 => (oGI S79 l0 10 54).bind fun x85 => (F_X10_number S79 l0 (3 : Int32)).bind fun q87 => (oSI q87.2 x83 .int x85 q87.1).bind fun S89 => (oGI S89 l0 10 23).bind fun x91 => if x91 = 0 then (F_X10_readsEntry_212 S89 l0) else ((oGA S89 l0 10 52).bind fun x93 => (oGI S89 l0 10 54).bind fun x95 => (oAI S89 x93 .int x95).bind fun x97 => (oGI S89 l0 10 54).bind fun x99 => if x97 < x99 then (F_X10_readsEntry_212 S89 l0) else ((oPZ S89 l0 10 23 (0 : Int32)).bind fun S101 => (oPI S101 l0 10 21 x81).bind fun S103 => F_X10_readsEntry_212 S103 l0))))) else (some S)
set_option maxRecDepth 100000 in
set_option maxHeartbeats 4000000 in
theorem W_X10_readsEntry_76 {X : pX} {Q : pO → Nat → pF → Prop} (S : pS) (l0 : Nat) (l2 : Int32) (r : pS) (hf : F_X10_readsEntry_76 S l0 l2 = some r) (hk : Q (.inl none) r.1 r.2) : gW X mX10_readsEntry 76 [some (.ref l0), none, some (.int l2), none] [] S.1 S.2 Q 0 0 := by
  unfold F_X10_readsEntry_76 at hf
  refine r_aload_n (pc := 76) dX10_readsEntry_76 rfl ?_
  replace hf := obind hf
  obtain ⟨x19, e20, hf⟩ := hf
  refine q_getI (pc := 77) dX10_readsEntry_77 gX10_205 e20 ?_
  refine r_if_ne (pc := 80) 84 dX10_readsEntry_80 (by decide) (fun hc => ?_) (fun hc => ?_)
  · rw [if_pos hc] at hf
    refine r_aload_n (pc := 84) dX10_readsEntry_84 rfl ?_
    replace hf := obind hf
    obtain ⟨x21, e22, hf⟩ := hf
    refine q_getA (pc := 85) dX10_readsEntry_85 gX10_112 e22 ?_
    refine r_aload_n (pc := 88) dX10_readsEntry_88 rfl ?_
    replace hf := obind hf
    obtain ⟨x23, e24, hf⟩ := hf
    refine q_getI (pc := 89) dX10_readsEntry_89 gX10_348 e24 ?_
    refine r_iload_n (pc := 92) dX10_readsEntry_92 rfl ?_
    replace hf := obind hf
    obtain ⟨S25, e26, hf⟩ := hf
    refine q_iast (pc := 93) dX10_readsEntry_93 e26 ?_
    refine r_aload_n (pc := 94) dX10_readsEntry_94 rfl ?_
    replace hf := obind hf
    obtain ⟨x27, e28, hf⟩ := hf
    refine q_getA (pc := 95) dX10_readsEntry_95 gX10_121 e28 ?_
    refine r_aload_n (pc := 98) dX10_readsEntry_98 rfl ?_
    replace hf := obind hf
    obtain ⟨x29, e30, hf⟩ := hf
    refine q_getI (pc := 99) dX10_readsEntry_99 gX10_348 e30 ?_
    refine r_iconst (pc := 102) (-1 : Int32) dX10_readsEntry_102 (by decide) ?_
    replace hf := obind hf
    obtain ⟨S31, e32, hf⟩ := hf
    refine q_iast (pc := 103) dX10_readsEntry_103 e32 ?_
    refine r_aload_n (pc := 104) dX10_readsEntry_104 rfl ?_
    replace hf := obind hf
    obtain ⟨x33, e34, hf⟩ := hf
    refine q_getA (pc := 105) dX10_readsEntry_105 gX10_124 e34 ?_
    refine r_aload_n (pc := 108) dX10_readsEntry_108 rfl ?_
    replace hf := obind hf
    obtain ⟨x35, e36, hf⟩ := hf
    refine q_getI (pc := 109) dX10_readsEntry_109 gX10_348 e36 ?_
    refine r_iconst (pc := 112) (0 : Int32) dX10_readsEntry_112 (by decide) ?_
    replace hf := obind hf
    obtain ⟨S37, e38, hf⟩ := hf
    refine q_iast (pc := 113) dX10_readsEntry_113 e38 ?_
    refine r_aload_n (pc := 114) dX10_readsEntry_114 rfl ?_
    replace hf := obind hf
    obtain ⟨x39, e40, hf⟩ := hf
    refine q_getA (pc := 115) dX10_readsEntry_115 gX10_127 e40 ?_
    refine r_aload_n (pc := 118) dX10_readsEntry_118 rfl ?_
    replace hf := obind hf
    obtain ⟨x41, e42, hf⟩ := hf
    refine q_getI (pc := 119) dX10_readsEntry_119 gX10_348 e42 ?_
    refine r_iconst (pc := 122) (0 : Int32) dX10_readsEntry_122 (by decide) ?_
    replace hf := obind hf
    obtain ⟨S43, e44, hf⟩ := hf
    refine q_iast (pc := 123) dX10_readsEntry_123 e44 ?_
    refine r_aload_n (pc := 124) dX10_readsEntry_124 rfl ?_
    replace hf := obind hf
    obtain ⟨x45, e46, hf⟩ := hf
    refine q_getA (pc := 125) dX10_readsEntry_125 gX10_130 e46 ?_
    refine r_aload_n (pc := 128) dX10_readsEntry_128 rfl ?_
    replace hf := obind hf
    obtain ⟨x47, e48, hf⟩ := hf
    refine q_getI (pc := 129) dX10_readsEntry_129 gX10_348 e48 ?_
    refine r_iconst (pc := 132) (-1 : Int32) dX10_readsEntry_132 (by decide) ?_
    replace hf := obind hf
    obtain ⟨S49, e50, hf⟩ := hf
    refine q_iast (pc := 133) dX10_readsEntry_133 e50 ?_
    refine r_aload_n (pc := 134) dX10_readsEntry_134 rfl ?_
    replace hf := obind hf
    obtain ⟨q51, e52, hf⟩ := hf
    refine q_callV (pc := 135) (v := some (.int q51)) (S' := S49) mX10_here 10 [] dX10_readsEntry_135 kX10_209 fX10_here iX10_here ⟨by decide, by decide⟩ rfl rfl rfl (Nat.le_of_ble_eq_true rfl) (og e52) (mc1 := 0) (ms1 := 0) (mc2 := 0) (ms2 := 0) (by decide) (by decide) (C_X10_here S49 l0 q51 e52 (qR_mk _ _)) ?_
    change gW _ _ _ _ (.int q51 :: _) _ _ _ _ _
    refine r_bipush (pc := 138) (42 : Int32) dX10_readsEntry_138 (by decide) ?_
    refine r_icmp_ne (pc := 140) 215 dX10_readsEntry_140 (by decide) (fun hc => ?_) (fun hc => ?_)
    · rw [if_pos hc] at hf
      refine gW.mono (mc := 0) (ms := 0) ?_ (fun _ _ _ q => q) (by decide) (by decide)
      exact gW.weak (by simp [gle]) (W_X10_readsEntry_215 S49 l0 r hf hk)
    · rw [if_neg hc] at hf
      refine r_aload_n (pc := 143) dX10_readsEntry_143 rfl ?_
      replace hf := obind hf
      obtain ⟨x75, e76, hf⟩ := hf
      refine q_getI (pc := 144) dX10_readsEntry_144 gX10_348 e76 ?_
      refine r_if_le (pc := 147) 215 dX10_readsEntry_147 (by decide) (fun hc => ?_) (fun hc => ?_)
      · rw [if_pos hc] at hf
        refine gW.mono (mc := 0) (ms := 0) ?_ (fun _ _ _ q => q) (by decide) (by decide)
        exact gW.weak (by simp [gle]) (W_X10_readsEntry_215 S49 l0 r hf hk)
      · rw [if_neg hc] at hf
        refine r_aload_n (pc := 150) dX10_readsEntry_150 rfl ?_
        refine r_dup (pc := 151) dX10_readsEntry_151 rfl ?_
        replace hf := obind hf
        obtain ⟨x77, e78, hf⟩ := hf
        refine q_getI (pc := 152) dX10_readsEntry_152 gX10_199 e78 ?_
        refine r_iconst (pc := 155) (1 : Int32) dX10_readsEntry_155 (by decide) ?_
        refine r_iadd (pc := 156) dX10_readsEntry_156 ?_
        replace hf := obind hf
        obtain ⟨S79, e80, hf⟩ := hf
        refine q_putI (pc := 157) dX10_readsEntry_157 pX10_199 rfl e80 ?_
        refine r_aload_n (pc := 160) dX10_readsEntry_160 rfl ?_
        replace hf := obind hf
        obtain ⟨x81, e82, hf⟩ := hf
        refine q_getI (pc := 161) dX10_readsEntry_161 gX10_199 e82 ?_
        refine r_istore_n (pc := 164) dX10_readsEntry_164 (by decide) ?_
        change gW _ _ _ [some (.ref l0), none, some (.int l2), some (.int x81)] _ _ _ _ _ _
        refine r_aload_n (pc := 165) dX10_readsEntry_165 rfl ?_
        replace hf := obind hf
        obtain ⟨x83, e84, hf⟩ := hf
        refine q_getA (pc := 166) dX10_readsEntry_166 gX10_130 e84 ?_
        refine r_aload_n (pc := 169) dX10_readsEntry_169 rfl ?_
        replace hf := obind hf
        obtain ⟨x85, e86, hf⟩ := hf
        refine q_getI (pc := 170) dX10_readsEntry_170 gX10_348 e86 ?_
        refine r_aload_n (pc := 173) dX10_readsEntry_173 rfl ?_
        refine r_iconst (pc := 174) (3 : Int32) dX10_readsEntry_174 (by decide) ?_
        replace hf := obind hf
        obtain ⟨q87, e88, hf⟩ := hf
        refine q_callV (pc := 175) (v := some (.int q87.1)) (S' := q87.2) mX10_number 10 [.int (3 : Int32)] dX10_readsEntry_175 kX10_319 fX10_number iX10_number ⟨by decide, by decide⟩ rfl rfl rfl (Nat.le_of_ble_eq_true rfl) (og e88) (mc1 := 0) (ms1 := 0) (mc2 := 0) (ms2 := 0) (by decide) (by decide) (C_X10_number S79 l0 (3 : Int32) q87 e88 (qR_mk _ _)) ?_
        change gW _ _ _ _ (.int q87.1 :: _) _ _ _ _ _
        replace hf := obind hf
        obtain ⟨S89, e90, hf⟩ := hf
        refine q_iast (pc := 178) dX10_readsEntry_178 e90 ?_
        refine r_aload_n (pc := 179) dX10_readsEntry_179 rfl ?_
        replace hf := obind hf
        obtain ⟨x91, e92, hf⟩ := hf
        refine q_getI (pc := 180) dX10_readsEntry_180 gX10_205 e92 ?_
        refine r_if_eq (pc := 183) 212 dX10_readsEntry_183 (by decide) (fun hc => ?_) (fun hc => ?_)
        · rw [if_pos hc] at hf
          refine gW.mono (mc := 0) (ms := 0) ?_ (fun _ _ _ q => q) (by decide) (by decide)
          exact gW.weak (by simp [gle]) (W_X10_readsEntry_212 S89 l0 r hf hk)
        · rw [if_neg hc] at hf
          refine r_aload_n (pc := 186) dX10_readsEntry_186 rfl ?_
          replace hf := obind hf
          obtain ⟨x93, e94, hf⟩ := hf
          refine q_getA (pc := 187) dX10_readsEntry_187 gX10_130 e94 ?_
          refine r_aload_n (pc := 190) dX10_readsEntry_190 rfl ?_
          replace hf := obind hf
          obtain ⟨x95, e96, hf⟩ := hf
          refine q_getI (pc := 191) dX10_readsEntry_191 gX10_348 e96 ?_
          replace hf := obind hf
          obtain ⟨x97, e98, hf⟩ := hf
          refine q_iald (pc := 194) dX10_readsEntry_194 e98 ?_
          refine r_aload_n (pc := 195) dX10_readsEntry_195 rfl ?_
          replace hf := obind hf
          obtain ⟨x99, e100, hf⟩ := hf
          refine q_getI (pc := 196) dX10_readsEntry_196 gX10_348 e100 ?_
          refine r_icmp_lt (pc := 199) 212 dX10_readsEntry_199 (by decide) (fun hc => ?_) (fun hc => ?_)
          · rw [if_pos hc] at hf
            refine gW.mono (mc := 0) (ms := 0) ?_ (fun _ _ _ q => q) (by decide) (by decide)
            exact gW.weak (by simp [gle]) (W_X10_readsEntry_212 S89 l0 r hf hk)
          · rw [if_neg hc] at hf
            refine r_aload_n (pc := 202) dX10_readsEntry_202 rfl ?_
            refine r_iconst (pc := 203) (0 : Int32) dX10_readsEntry_203 (by decide) ?_
            replace hf := obind hf
            obtain ⟨S101, e102, hf⟩ := hf
            refine q_putZ (pc := 204) dX10_readsEntry_204 pX10_205 rfl e102 ?_
            refine r_aload_n (pc := 207) dX10_readsEntry_207 rfl ?_
            refine r_iload_n (pc := 208) dX10_readsEntry_208 rfl ?_
            replace hf := obind hf
            obtain ⟨S103, e104, hf⟩ := hf
            refine q_putI (pc := 209) dX10_readsEntry_209 pX10_199 rfl e104 ?_
            refine gW.mono (mc := 0) (ms := 0) ?_ (fun _ _ _ q => q) (by decide) (by decide)
            exact gW.weak (by simp [gle]) (W_X10_readsEntry_212 S103 l0 r hf hk)
  · rw [if_neg hc] at hf
    refine r_return (pc := 83) dX10_readsEntry_83 rfl ?_
    cases hf
    exact hk
def F_X10_readsEntry (S : pS) (a0 : Nat) : Option (pS) := (oF S a0 10).bind fun _ => (F_X10_levelMost S a0).bind fun q1 => (iter (F_X10_readsEntry_7 a0 q1) fu ((0 : Int32), S)).bind fun r17 => F_X10_readsEntry_76 r17.2 a0 r17.1
set_option maxRecDepth 100000 in
set_option maxHeartbeats 4000000 in
theorem C_X10_readsEntry {X : pX} {Q : pO → Nat → pF → Prop} (S : pS) (a0 : Nat) (r : pS) (hf : F_X10_readsEntry S a0 = some r) (hk : Q (.inl none) r.1 r.2) : gC X mX10_readsEntry [.ref a0] S.1 S.2 Q 0 0 := by
  refine gC_of (by decide) (Nat.le_of_ble_eq_true rfl) rfl ?_
  change gW _ _ _ [some (.ref a0), none, none, none] _ _ _ _ _ _
  unfold F_X10_readsEntry at hf
  obtain ⟨_, _, hf⟩ := obind hf
  refine r_aload_n (pc := 0) dX10_readsEntry_0 rfl ?_
  replace hf := obind hf
  obtain ⟨q1, e2, hf⟩ := hf
  refine q_callV (pc := 1) (v := some (.int q1)) (S' := S) mX10_levelMost 10 [] dX10_readsEntry_1 kX10_351 fX10_levelMost iX10_levelMost ⟨by decide, by decide⟩ rfl rfl rfl (Nat.le_of_ble_eq_true rfl) (og e2) (mc1 := 0) (ms1 := 0) (mc2 := 0) (ms2 := 0) (by decide) (by decide) (C_X10_levelMost S a0 q1 e2 (qR_mk _ _)) ?_
  change gW _ _ _ _ (.int q1 :: _) _ _ _ _ _
  refine r_istore_n (pc := 4) dX10_readsEntry_4 (by decide) ?_
  change gW _ _ _ [some (.ref a0), some (.int q1), none, none] _ _ _ _ _ _
  refine r_iconst (pc := 5) (0 : Int32) dX10_readsEntry_5 (by decide) ?_
  refine r_istore_n (pc := 6) dX10_readsEntry_6 (by decide) ?_
  change gW _ _ _ [some (.ref a0), some (.int q1), some (.int (0 : Int32)), none] _ _ _ _ _ _
  replace hf := obind hf
  obtain ⟨r17, e18, hf⟩ := hf
  refine gW.weak (ls' := [some (.ref a0), some (.int q1), some (.int (0 : Int32)), none]) (by simp [gle]) ?_
  refine g_iter (L := L_X10_readsEntry_7 a0 q1) (s := s_X10_readsEntry_7 a0 q1) (K := K_X10_readsEntry_7 X Q _ _ a0 q1) (W_X10_readsEntry_7 a0 q1) fu ((0 : Int32), S) _ e18 ?_
  show gW _ _ 76 [some (.ref a0), some (.int q1), some (.int r17.1), none] [] r17.2.1 r17.2.2 _ _ _
  refine gW.mono (mc := 0) (ms := 0) ?_ (fun _ _ _ q => q) (by decide) (by decide)
  exact gW.weak (by simp [gle]) (W_X10_readsEntry_76 r17.2 a0 r17.1 r hf hk)
abbrev L_X10_readsOutline_13 (l0 : Nat) : pS → List (Option Value) := fun a => [some (.ref l0)]
abbrev s_X10_readsOutline_13 (l0 : Nat) : pS → pS := fun a => a
abbrev K_X10_readsOutline_13 (X : pX) (Q : pO → Nat → pF → Prop) (mc ms : Nat) (l0 : Nat) : pS → Prop := (fun b => gW X mX10_readsOutline 73 [some (.ref l0)] [] b.1 b.2 Q mc ms)
def F_X10_readsOutline_46 (l0 : Nat) (S : pS) (t0 : Nat) (t1 : Int32) : Option ((pS) ⊕ (pS)) := (oPZ S t0 10 23 t1).bind fun S15 => (oGI S15 l0 10 23).bind fun x17 => if x17 = 0 then (some (.inl S15)) else ((oGI S15 l0 10 21).bind fun x19 => (oPI S15 l0 10 21 (x19 + (1 : Int32))).bind fun S21 => (F_X10_readsEntry S21 l0).bind fun q23 => some (.inl q23))
set_option maxRecDepth 100000 in
set_option maxHeartbeats 4000000 in
theorem W_X10_readsOutline_46 {X : pX} {Q : pO → Nat → pF → Prop} {mc ms : Nat} (l0 : Nat) (S : pS) (t0 : Nat) (t1 : Int32) (r : (pS) ⊕ (pS)) (hf : F_X10_readsOutline_46 l0 S t0 t1 = some r) (hk : Sum.elim (fun a' => gW X mX10_readsOutline 13 (L_X10_readsOutline_13 l0 a') [] (s_X10_readsOutline_13 l0 a').1 (s_X10_readsOutline_13 l0 a').2 Q mc ms) (K_X10_readsOutline_13 X Q mc ms l0) r) : gW X mX10_readsOutline 46 [some (.ref l0)] [.int t1, .ref t0] S.1 S.2 Q mc ms := by
  unfold F_X10_readsOutline_46 at hf
  replace hf := obind hf
  obtain ⟨S15, e16, hf⟩ := hf
  refine q_putZ (pc := 46) dX10_readsOutline_46 pX10_205 rfl e16 ?_
  refine r_aload_n (pc := 49) dX10_readsOutline_49 rfl ?_
  replace hf := obind hf
  obtain ⟨x17, e18, hf⟩ := hf
  refine q_getI (pc := 50) dX10_readsOutline_50 gX10_205 e18 ?_
  refine r_if_eq (pc := 53) 13 dX10_readsOutline_53 (by decide) (fun hc => ?_) (fun hc => ?_)
  · rw [if_pos hc] at hf
    cases hf
    exact gW.weak (by simp [gle]) hk
  · rw [if_neg hc] at hf
    refine r_aload_n (pc := 56) dX10_readsOutline_56 rfl ?_
    refine r_dup (pc := 57) dX10_readsOutline_57 rfl ?_
    replace hf := obind hf
    obtain ⟨x19, e20, hf⟩ := hf
    refine q_getI (pc := 58) dX10_readsOutline_58 gX10_199 e20 ?_
    refine r_iconst (pc := 61) (1 : Int32) dX10_readsOutline_61 (by decide) ?_
    refine r_iadd (pc := 62) dX10_readsOutline_62 ?_
    replace hf := obind hf
    obtain ⟨S21, e22, hf⟩ := hf
    refine q_putI (pc := 63) dX10_readsOutline_63 pX10_199 rfl e22 ?_
    refine r_aload_n (pc := 66) dX10_readsOutline_66 rfl ?_
    replace hf := obind hf
    obtain ⟨q23, e24, hf⟩ := hf
    refine q_callV (pc := 67) (v := none) (S' := q23) mX10_readsEntry 10 [] dX10_readsOutline_67 kX10_357 fX10_readsEntry iX10_readsEntry ⟨by decide, by decide⟩ rfl rfl rfl (Nat.le_of_ble_eq_true rfl) (og e24) (mc1 := 0) (ms1 := 0) (mc2 := mc) (ms2 := ms) (by omega) (by omega) (C_X10_readsEntry S21 l0 q23 e24 (qR_mk _ _)) ?_
    refine r_goto (pc := 70) 13 dX10_readsOutline_70 (by decide) ?_
    cases hf
    exact gW.weak (by simp [gle]) hk
def F_X10_readsOutline_13 (l0 : Nat) : pS → Option ((pS) ⊕ (pS)) := fun a => (oGI a l0 10 23).bind fun x7 => if x7 = 0 then (some (.inr a)) else ((oGI a l0 10 21).bind fun x9 => (oGI a l0 10 22).bind fun x11 => if x11 ≤ x9 then (some (.inr a)) else ((F_X10_here a l0).bind fun q13 => if ¬ q13 = (59 : Int32) then (F_X10_readsOutline_46 l0 a l0 (0 : Int32)) else (F_X10_readsOutline_46 l0 a l0 (1 : Int32))))
set_option maxRecDepth 100000 in
set_option maxHeartbeats 4000000 in
theorem W_X10_readsOutline_13 {X : pX} {Q : pO → Nat → pF → Prop} {mc ms : Nat} (l0 : Nat) : ∀ (a : pS) (r : (pS) ⊕ (pS)), F_X10_readsOutline_13 l0 a = some r → Sum.elim (fun a' => gW X mX10_readsOutline 13 (L_X10_readsOutline_13 l0 a') [] (s_X10_readsOutline_13 l0 a').1 (s_X10_readsOutline_13 l0 a').2 Q mc ms) (K_X10_readsOutline_13 X Q mc ms l0) r → gW X mX10_readsOutline 13 (L_X10_readsOutline_13 l0 a) [] (s_X10_readsOutline_13 l0 a).1 (s_X10_readsOutline_13 l0 a).2 Q mc ms := by
  intro S r hf hk
  unfold F_X10_readsOutline_13 at hf
  try dsimp only at hf
  change gW _ _ _ [some (.ref l0)] _ S.1 S.2 _ _ _
  refine r_aload_n (pc := 13) dX10_readsOutline_13 rfl ?_
  replace hf := obind hf
  obtain ⟨x7, e8, hf⟩ := hf
  refine q_getI (pc := 14) dX10_readsOutline_14 gX10_205 e8 ?_
  refine r_if_eq (pc := 17) 73 dX10_readsOutline_17 (by decide) (fun hc => ?_) (fun hc => ?_)
  · rw [if_pos hc] at hf
    cases hf
    exact gW.weak (by simp [gle]) hk
  · rw [if_neg hc] at hf
    refine r_aload_n (pc := 20) dX10_readsOutline_20 rfl ?_
    replace hf := obind hf
    obtain ⟨x9, e10, hf⟩ := hf
    refine q_getI (pc := 21) dX10_readsOutline_21 gX10_199 e10 ?_
    refine r_aload_n (pc := 24) dX10_readsOutline_24 rfl ?_
    replace hf := obind hf
    obtain ⟨x11, e12, hf⟩ := hf
    refine q_getI (pc := 25) dX10_readsOutline_25 gX10_202 e12 ?_
    refine r_icmp_ge (pc := 28) 73 dX10_readsOutline_28 (by decide) (fun hc => ?_) (fun hc => ?_)
    · rw [if_pos hc] at hf
      cases hf
      exact gW.weak (by simp [gle]) hk
    · rw [if_neg hc] at hf
      refine r_aload_n (pc := 31) dX10_readsOutline_31 rfl ?_
      refine r_aload_n (pc := 32) dX10_readsOutline_32 rfl ?_
      replace hf := obind hf
      obtain ⟨q13, e14, hf⟩ := hf
      refine q_callV (pc := 33) (v := some (.int q13)) (S' := S) mX10_here 10 [] dX10_readsOutline_33 kX10_209 fX10_here iX10_here ⟨by decide, by decide⟩ rfl rfl rfl (Nat.le_of_ble_eq_true rfl) (og e14) (mc1 := 0) (ms1 := 0) (mc2 := mc) (ms2 := ms) (by omega) (by omega) (C_X10_here S l0 q13 e14 (qR_mk _ _)) ?_
      change gW _ _ _ _ (.int q13 :: _) _ _ _ _ _
      refine r_bipush (pc := 36) (59 : Int32) dX10_readsOutline_36 (by decide) ?_
      refine r_icmp_ne (pc := 38) 45 dX10_readsOutline_38 (by decide) (fun hc => ?_) (fun hc => ?_)
      · rw [if_pos hc] at hf
        refine r_iconst (pc := 45) (0 : Int32) dX10_readsOutline_45 (by decide) ?_
        exact gW.weak (by simp [gle]) (W_X10_readsOutline_46 l0 S l0 (0 : Int32) r hf hk)
      · rw [if_neg hc] at hf
        refine r_iconst (pc := 41) (1 : Int32) dX10_readsOutline_41 (by decide) ?_
        refine r_goto (pc := 42) 46 dX10_readsOutline_42 (by decide) ?_
        exact gW.weak (by simp [gle]) (W_X10_readsOutline_46 l0 S l0 (1 : Int32) r hf hk)
def F_X10_readsOutline_92 (S : pS) (l0 : Nat) (t0 : Nat) (t1 : Int32) : Option (Int32 × pS) := (oPI S t0 10 11 t1).bind fun S31 => (oGI S31 l0 10 23).bind fun x33 => (oZ x33).bind fun x35 => some (x35, S31)
set_option maxRecDepth 100000 in
set_option maxHeartbeats 4000000 in
theorem W_X10_readsOutline_92 {X : pX} {Q : pO → Nat → pF → Prop} (S : pS) (l0 : Nat) (t0 : Nat) (t1 : Int32) (r : Int32 × pS) (hf : F_X10_readsOutline_92 S l0 t0 t1 = some r) (hk : Q (.inl (some (.int r.1))) r.2.1 r.2.2) : gW X mX10_readsOutline 92 [some (.ref l0)] [.int t1, .ref t0] S.1 S.2 Q 0 0 := by
  unfold F_X10_readsOutline_92 at hf
  replace hf := obind hf
  obtain ⟨S31, e32, hf⟩ := hf
  refine q_putI (pc := 92) dX10_readsOutline_92 pX10_28 rfl e32 ?_
  refine r_aload_n (pc := 95) dX10_readsOutline_95 rfl ?_
  replace hf := obind hf
  obtain ⟨x33, e34, hf⟩ := hf
  refine q_getI (pc := 96) dX10_readsOutline_96 gX10_205 e34 ?_
  replace hf := obind hf
  obtain ⟨x35, e36, hf⟩ := hf
  obtain ⟨e36a, e36b⟩ := oZ_some e36
  rw [e36a] at hf
  refine r_ireturn (pc := 99) .boolean dX10_readsOutline_99 rfl e36b ?_
  cases hf
  exact hk
def F_X10_readsOutline_73 (S : pS) (l0 : Nat) : Option (Int32 × pS) := (oGI S l0 10 23).bind fun x27 => if x27 = 0 then ((oGI S l0 10 21).bind fun x29 => F_X10_readsOutline_92 S l0 l0 x29) else ((oGI S l0 10 11).bind fun x37 => F_X10_readsOutline_92 S l0 l0 x37)
set_option maxRecDepth 100000 in
set_option maxHeartbeats 4000000 in
theorem W_X10_readsOutline_73 {X : pX} {Q : pO → Nat → pF → Prop} (S : pS) (l0 : Nat) (r : Int32 × pS) (hf : F_X10_readsOutline_73 S l0 = some r) (hk : Q (.inl (some (.int r.1))) r.2.1 r.2.2) : gW X mX10_readsOutline 73 [some (.ref l0)] [] S.1 S.2 Q 0 0 := by
  unfold F_X10_readsOutline_73 at hf
  refine r_aload_n (pc := 73) dX10_readsOutline_73 rfl ?_
  refine r_aload_n (pc := 74) dX10_readsOutline_74 rfl ?_
  replace hf := obind hf
  obtain ⟨x27, e28, hf⟩ := hf
  refine q_getI (pc := 75) dX10_readsOutline_75 gX10_205 e28 ?_
  refine r_if_eq (pc := 78) 88 dX10_readsOutline_78 (by decide) (fun hc => ?_) (fun hc => ?_)
  · rw [if_pos hc] at hf
    refine r_aload_n (pc := 88) dX10_readsOutline_88 rfl ?_
    replace hf := obind hf
    obtain ⟨x29, e30, hf⟩ := hf
    refine q_getI (pc := 89) dX10_readsOutline_89 gX10_199 e30 ?_
    refine gW.mono (mc := 0) (ms := 0) ?_ (fun _ _ _ q => q) (by decide) (by decide)
    exact gW.weak (by simp [gle]) (W_X10_readsOutline_92 S l0 l0 x29 r hf hk)
  · rw [if_neg hc] at hf
    refine r_aload_n (pc := 81) dX10_readsOutline_81 rfl ?_
    replace hf := obind hf
    obtain ⟨x37, e38, hf⟩ := hf
    refine q_getI (pc := 82) dX10_readsOutline_82 gX10_28 e38 ?_
    refine r_goto (pc := 85) 92 dX10_readsOutline_85 (by decide) ?_
    refine gW.mono (mc := 0) (ms := 0) ?_ (fun _ _ _ q => q) (by decide) (by decide)
    exact gW.weak (by simp [gle]) (W_X10_readsOutline_92 S l0 l0 x37 r hf hk)
def F_X10_readsOutline (S : pS) (a0 : Nat) : Option (Int32 × pS) := (oF S a0 10).bind fun _ => (F_X10_begins S a0).bind fun q1 => (oPI q1 a0 10 54 (0 : Int32)).bind fun S3 => (F_X10_readsEntry S3 a0).bind fun q5 => (iter (F_X10_readsOutline_13 a0) fu q5).bind fun r25 => F_X10_readsOutline_73 r25 a0
set_option maxRecDepth 100000 in
set_option maxHeartbeats 4000000 in
theorem C_X10_readsOutline {X : pX} {Q : pO → Nat → pF → Prop} (S : pS) (a0 : Nat) (r : Int32 × pS) (hf : F_X10_readsOutline S a0 = some r) (hk : Q (.inl (some (.int r.1))) r.2.1 r.2.2) : gC X mX10_readsOutline [.ref a0] S.1 S.2 Q 0 0 := by
  refine gC_of (by decide) (Nat.le_of_ble_eq_true rfl) rfl ?_
  change gW _ _ _ [some (.ref a0)] _ _ _ _ _ _
  unfold F_X10_readsOutline at hf
  obtain ⟨_, _, hf⟩ := obind hf
  refine r_aload_n (pc := 0) dX10_readsOutline_0 rfl ?_
  replace hf := obind hf
  obtain ⟨q1, e2, hf⟩ := hf
  refine q_callV (pc := 1) (v := none) (S' := q1) mX10_begins 10 [] dX10_readsOutline_1 kX10_212 fX10_begins iX10_begins ⟨by decide, by decide⟩ rfl rfl rfl (Nat.le_of_ble_eq_true rfl) (og e2) (mc1 := 0) (ms1 := 0) (mc2 := 0) (ms2 := 0) (by decide) (by decide) (C_X10_begins S a0 q1 e2 (qR_mk _ _)) ?_
  refine r_aload_n (pc := 4) dX10_readsOutline_4 rfl ?_
  refine r_iconst (pc := 5) (0 : Int32) dX10_readsOutline_5 (by decide) ?_
  replace hf := obind hf
  obtain ⟨S3, e4, hf⟩ := hf
  refine q_putI (pc := 6) dX10_readsOutline_6 pX10_348 rfl e4 ?_
  refine r_aload_n (pc := 9) dX10_readsOutline_9 rfl ?_
  replace hf := obind hf
  obtain ⟨q5, e6, hf⟩ := hf
  refine q_callV (pc := 10) (v := none) (S' := q5) mX10_readsEntry 10 [] dX10_readsOutline_10 kX10_357 fX10_readsEntry iX10_readsEntry ⟨by decide, by decide⟩ rfl rfl rfl (Nat.le_of_ble_eq_true rfl) (og e6) (mc1 := 0) (ms1 := 0) (mc2 := 0) (ms2 := 0) (by decide) (by decide) (C_X10_readsEntry S3 a0 q5 e6 (qR_mk _ _)) ?_
  replace hf := obind hf
  obtain ⟨r25, e26, hf⟩ := hf
  refine gW.weak (ls' := [some (.ref a0)]) (by simp [gle]) ?_
  refine g_iter (L := L_X10_readsOutline_13 a0) (s := s_X10_readsOutline_13 a0) (K := K_X10_readsOutline_13 X Q _ _ a0) (W_X10_readsOutline_13 a0) fu q5 _ e26 ?_
  show gW _ _ 73 [some (.ref a0)] [] r25.1 r25.2 _ _ _
  refine gW.mono (mc := 0) (ms := 0) ?_ (fun _ _ _ q => q) (by decide) (by decide)
  exact gW.weak (by simp [gle]) (W_X10_readsOutline_73 r25 a0 r hf hk)
abbrev L_X10_parentOf_15 (l0 : Nat) (l1 : Int32) (S : pS) : Int32 → List (Option Value) := fun a => [some (.ref l0), some (.int l1), none, some (.int a)]
abbrev s_X10_parentOf_15 (l0 : Nat) (l1 : Int32) (S : pS) : Int32 → pS := fun a => S
abbrev K_X10_parentOf_15 (X : pX) (Q : pO → Nat → pF → Prop) (mc ms : Nat) (l0 : Nat) (l1 : Int32) (S : pS) : Int32 → Prop := (fun b => gW X mX10_parentOf 38 [some (.ref l0), some (.int l1), none, some (.int b)] [] S.1 S.2 Q mc ms)
def F_X10_parentOf_15 (l0 : Nat) (l1 : Int32) (S : pS) : Int32 → Option ((Int32) ⊕ (Int32)) := fun a => (oGA S l0 10 46).bind fun x5 => (oAI S x5 .int a).bind fun x7 => (oGA S l0 10 46).bind fun x9 => (oAI S x9 .int l1).bind fun x11 => if x7 = (x11 - (1 : Int32)) then (some (.inr a)) else (some (.inl (a + (-1 : Int32))))
set_option maxRecDepth 100000 in
set_option maxHeartbeats 4000000 in
theorem W_X10_parentOf_15 {X : pX} {Q : pO → Nat → pF → Prop} {mc ms : Nat} (l0 : Nat) (l1 : Int32) (S : pS) : ∀ (a : Int32) (r : (Int32) ⊕ (Int32)), F_X10_parentOf_15 l0 l1 S a = some r → Sum.elim (fun a' => gW X mX10_parentOf 15 (L_X10_parentOf_15 l0 l1 S a') [] (s_X10_parentOf_15 l0 l1 S a').1 (s_X10_parentOf_15 l0 l1 S a').2 Q mc ms) (K_X10_parentOf_15 X Q mc ms l0 l1 S) r → gW X mX10_parentOf 15 (L_X10_parentOf_15 l0 l1 S a) [] (s_X10_parentOf_15 l0 l1 S a).1 (s_X10_parentOf_15 l0 l1 S a).2 Q mc ms := by
  intro l3 r hf hk
  unfold F_X10_parentOf_15 at hf
  try dsimp only at hf
  change gW _ _ _ [some (.ref l0), some (.int l1), none, some (.int l3)] _ S.1 S.2 _ _ _
  refine r_aload_n (pc := 15) dX10_parentOf_15 rfl ?_
  replace hf := obind hf
  obtain ⟨x5, e6, hf⟩ := hf
  refine q_getA (pc := 16) dX10_parentOf_16 gX10_112 e6 ?_
  refine r_iload_n (pc := 19) dX10_parentOf_19 rfl ?_
  replace hf := obind hf
  obtain ⟨x7, e8, hf⟩ := hf
  refine q_iald (pc := 20) dX10_parentOf_20 e8 ?_
  refine r_aload_n (pc := 21) dX10_parentOf_21 rfl ?_
  replace hf := obind hf
  obtain ⟨x9, e10, hf⟩ := hf
  refine q_getA (pc := 22) dX10_parentOf_22 gX10_112 e10 ?_
  refine r_iload_n (pc := 25) dX10_parentOf_25 rfl ?_
  replace hf := obind hf
  obtain ⟨x11, e12, hf⟩ := hf
  refine q_iald (pc := 26) dX10_parentOf_26 e12 ?_
  refine r_iconst (pc := 27) (1 : Int32) dX10_parentOf_27 (by decide) ?_
  refine r_isub (pc := 28) dX10_parentOf_28 ?_
  refine r_icmp_eq (pc := 29) 38 dX10_parentOf_29 (by decide) (fun hc => ?_) (fun hc => ?_)
  · rw [if_pos hc] at hf
    cases hf
    exact gW.weak (by simp [gle]) hk
  · rw [if_neg hc] at hf
    refine r_iinc (pc := 32) dX10_parentOf_32 rfl (by decide) ?_
    change gW _ _ _ [some (.ref l0), some (.int l1), none, some (.int (l3 + (-1 : Int32)))] _ _ _ _ _ _
    refine r_goto (pc := 35) 15 dX10_parentOf_35 (by decide) ?_
    cases hf
    exact gW.weak (by simp [gle]) hk
def F_X10_parentOf (S : pS) (a0 : Nat) (a1 : Int32) (a2 : Int32) : Option (Int32) := (oF S a0 10).bind fun _ => (oGA S a0 10 46).bind fun x1 => (oAI S x1 .int a1).bind fun x3 => if ¬ x3 = 0 then ((iter (F_X10_parentOf_15 a0 a1 S) fu (a1 - (1 : Int32))).bind fun r13 => (oGA S a0 10 53).bind fun x15 => (oAI S x15 .int r13).bind fun x17 => some x17) else (some a2)
set_option maxRecDepth 100000 in
set_option maxHeartbeats 4000000 in
theorem C_X10_parentOf {X : pX} {Q : pO → Nat → pF → Prop} (S : pS) (a0 : Nat) (a1 : Int32) (a2 : Int32) (r : Int32) (hf : F_X10_parentOf S a0 a1 a2 = some r) (hk : Q (.inl (some (.int r))) S.1 S.2) : gC X mX10_parentOf [.ref a0, .int a1, .int a2] S.1 S.2 Q 0 0 := by
  refine gC_of (by decide) (Nat.le_of_ble_eq_true rfl) rfl ?_
  change gW _ _ _ [some (.ref a0), some (.int a1), some (.int a2), none] _ _ _ _ _ _
  unfold F_X10_parentOf at hf
  obtain ⟨_, _, hf⟩ := obind hf
  refine r_aload_n (pc := 0) dX10_parentOf_0 rfl ?_
  replace hf := obind hf
  obtain ⟨x1, e2, hf⟩ := hf
  refine q_getA (pc := 1) dX10_parentOf_1 gX10_112 e2 ?_
  refine r_iload_n (pc := 4) dX10_parentOf_4 rfl ?_
  replace hf := obind hf
  obtain ⟨x3, e4, hf⟩ := hf
  refine q_iald (pc := 5) dX10_parentOf_5 e4 ?_
  refine r_if_ne (pc := 6) 11 dX10_parentOf_6 (by decide) (fun hc => ?_) (fun hc => ?_)
  · rw [if_pos hc] at hf
    refine r_iload_n (pc := 11) dX10_parentOf_11 rfl ?_
    refine r_iconst (pc := 12) (1 : Int32) dX10_parentOf_12 (by decide) ?_
    refine r_isub (pc := 13) dX10_parentOf_13 ?_
    refine r_istore_n (pc := 14) dX10_parentOf_14 (by decide) ?_
    change gW _ _ _ [some (.ref a0), some (.int a1), some (.int a2), some (.int (a1 - (1 : Int32)))] _ _ _ _ _ _
    replace hf := obind hf
    obtain ⟨r13, e14, hf⟩ := hf
    refine gW.weak (ls' := [some (.ref a0), some (.int a1), none, some (.int (a1 - (1 : Int32)))]) (by simp [gle]) ?_
    refine g_iter (L := L_X10_parentOf_15 a0 a1 S) (s := s_X10_parentOf_15 a0 a1 S) (K := K_X10_parentOf_15 X Q _ _ a0 a1 S) (W_X10_parentOf_15 a0 a1 S) fu (a1 - (1 : Int32)) _ e14 ?_
    show gW _ _ 38 [some (.ref a0), some (.int a1), none, some (.int r13)] [] S.1 S.2 _ _ _
    refine r_aload_n (pc := 38) dX10_parentOf_38 rfl ?_
    replace hf := obind hf
    obtain ⟨x15, e16, hf⟩ := hf
    refine q_getA (pc := 39) dX10_parentOf_39 gX10_133 e16 ?_
    refine r_iload_n (pc := 42) dX10_parentOf_42 rfl ?_
    replace hf := obind hf
    obtain ⟨x17, e18, hf⟩ := hf
    refine q_iald (pc := 43) dX10_parentOf_43 e18 ?_
    refine r_ireturn (pc := 44) .int dX10_parentOf_44 rfl rfl ?_
    cases hf
    exact hk
  · rw [if_neg hc] at hf
    refine r_iload_n (pc := 9) dX10_parentOf_9 rfl ?_
    refine r_ireturn (pc := 10) .int dX10_parentOf_10 rfl rfl ?_
    cases hf
    exact hk
abbrev L_X10_load_38 (l0 : Nat) (l1 : Int32) : Int32 × pS → List (Option Value) := fun a => [some (.ref l0), some (.int l1), some (.int a.1), none, none, none]
abbrev s_X10_load_38 (l0 : Nat) (l1 : Int32) : Int32 × pS → pS := fun a => a.2
abbrev K_X10_load_38 (X : pX) (Q : pO → Nat → pF → Prop) (mc ms : Nat) (l0 : Nat) (l1 : Int32) : (Int32 × Int32 × pS) ⊕ (pS) → Prop := (Sum.elim (fun b => gW X mX10_load 94 [some (.ref l0), some (.int l1), some (.int b.1), none, none, some (.int b.2.1)] [] b.2.2.1 b.2.2.2 Q mc ms) (fun b => gW X mX10_load 251 [some (.ref l0), some (.int l1), none, none, none, none] [] b.1 b.2 Q mc ms))
def F_X10_load_224 (l0 : Nat) (l1 : Int32) (S : pS) (l2 : Int32) (l3 : Int32) : Option ((Int32 × pS) ⊕ ((Int32 × Int32 × pS) ⊕ (pS))) := (oGA S l0 10 1).bind fun x31 => (oAI S x31 .int ((916 : Int32) + l3)).bind fun x33 => (oGA S l0 10 53).bind fun x35 => (oAI S x35 .int l2).bind fun x37 => (F_X10_puts S l0 l3 x33 x37).bind fun q39 => some (.inl (l2 + (1 : Int32), q39))
set_option maxRecDepth 100000 in
set_option maxHeartbeats 4000000 in
theorem W_X10_load_224 {X : pX} {Q : pO → Nat → pF → Prop} {mc ms : Nat} (l0 : Nat) (l1 : Int32) (S : pS) (l2 : Int32) (l3 : Int32) (r : (Int32 × pS) ⊕ ((Int32 × Int32 × pS) ⊕ (pS))) (hf : F_X10_load_224 l0 l1 S l2 l3 = some r) (hk : Sum.elim (fun a' => gW X mX10_load 38 (L_X10_load_38 l0 l1 a') [] (s_X10_load_38 l0 l1 a').1 (s_X10_load_38 l0 l1 a').2 Q mc ms) (K_X10_load_38 X Q mc ms l0 l1) r) : gW X mX10_load 224 [some (.ref l0), some (.int l1), some (.int l2), some (.int l3), none, none] [] S.1 S.2 Q mc ms := by
  unfold F_X10_load_224 at hf
  refine r_aload_n (pc := 224) dX10_load_224 rfl ?_
  refine r_iload_n (pc := 225) dX10_load_225 rfl ?_
  refine r_aload_n (pc := 226) dX10_load_226 rfl ?_
  replace hf := obind hf
  obtain ⟨x31, e32, hf⟩ := hf
  refine q_getA (pc := 227) dX10_load_227 gX10_7 e32 ?_
  refine r_sipush (pc := 230) (916 : Int32) dX10_load_230 (by decide) ?_
  refine r_iload_n (pc := 233) dX10_load_233 rfl ?_
  refine r_iadd (pc := 234) dX10_load_234 ?_
  replace hf := obind hf
  obtain ⟨x33, e34, hf⟩ := hf
  refine q_iald (pc := 235) dX10_load_235 e34 ?_
  refine r_aload_n (pc := 236) dX10_load_236 rfl ?_
  replace hf := obind hf
  obtain ⟨x35, e36, hf⟩ := hf
  refine q_getA (pc := 237) dX10_load_237 gX10_133 e36 ?_
  refine r_iload_n (pc := 240) dX10_load_240 rfl ?_
  replace hf := obind hf
  obtain ⟨x37, e38, hf⟩ := hf
  refine q_iald (pc := 241) dX10_load_241 e38 ?_
  replace hf := obind hf
  obtain ⟨q39, e40, hf⟩ := hf
  refine q_callV (pc := 242) (v := none) (S' := q39) mX10_puts 10 [.int l3, .int x33, .int x37] dX10_load_242 kX10_239 fX10_puts iX10_puts ⟨by decide, by decide⟩ rfl rfl rfl (Nat.le_of_ble_eq_true rfl) (og e40) (mc1 := 0) (ms1 := 0) (mc2 := mc) (ms2 := ms) (by omega) (by omega) (C_X10_puts S l0 l3 x33 x37 q39 e40 (qR_mk _ _)) ?_
  refine r_iinc (pc := 245) dX10_load_245 rfl (by decide) ?_
  change gW _ _ _ [some (.ref l0), some (.int l1), some (.int (l2 + (1 : Int32))), some (.int l3), none, none] _ _ _ _ _ _
  refine r_goto (pc := 248) 38 dX10_load_248 (by decide) ?_
  cases hf
  exact gW.weak (by simp [gle]) hk
def F_X10_load_134 (l0 : Nat) (l1 : Int32) (S : pS) (l2 : Int32) (l3 : Int32) (l4 : Int32) (t0 : Nat) (t1 : Int32) (t2 : Int32) : Option ((Int32 × pS) ⊕ ((Int32 × Int32 × pS) ⊕ (pS))) := (oSI S t0 .int t1 t2).bind fun S29 => if ¬ l4 = (-1 : Int32) then (F_X10_load_224 l0 l1 S29 l2 l3) else ((oGA S29 l0 10 53).bind fun x41 => (oAI S29 x41 .int l2).bind fun x43 => (oGA S29 l0 10 47).bind fun x45 => (oAI S29 x45 .int l2).bind fun x47 => (oGA S29 l0 10 48).bind fun x49 => (oAI S29 x49 .int l2).bind fun x51 => (F_X10_names S29 l0 x43 x47 x51).bind fun q53 => (oGA q53 l0 10 1).bind fun x55 => (oGA q53 l0 10 53).bind fun x57 => (oAI q53 x57 .int l2).bind fun x59 => (oGA q53 l0 10 49).bind fun x61 => (oAI q53 x61 .int l2).bind fun x63 => (oSI q53 x55 .int ((123 : Int32) + x59) x63).bind fun S65 => (oGA S65 l0 10 1).bind fun x67 => (oGA S65 l0 10 53).bind fun x69 => (oAI S65 x69 .int l2).bind fun x71 => (oGA S65 l0 10 50).bind fun x73 => (oAI S65 x73 .int l2).bind fun x75 => (oSI S65 x67 .int ((62 : Int32) + x71) x75).bind fun S77 => (oGA S77 l0 10 1).bind fun x79 => (oGA S77 l0 10 53).bind fun x81 => (oAI S77 x81 .int l2).bind fun x83 => (oGA S77 l0 10 51).bind fun x85 => (oAI S77 x85 .int l2).bind fun x87 => (oSI S77 x79 .int ((184 : Int32) + x83) x87).bind fun S89 => F_X10_load_224 l0 l1 S89 l2 l3)
set_option maxRecDepth 100000 in
set_option maxHeartbeats 4000000 in
theorem W_X10_load_134 {X : pX} {Q : pO → Nat → pF → Prop} {mc ms : Nat} (l0 : Nat) (l1 : Int32) (S : pS) (l2 : Int32) (l3 : Int32) (l4 : Int32) (t0 : Nat) (t1 : Int32) (t2 : Int32) (r : (Int32 × pS) ⊕ ((Int32 × Int32 × pS) ⊕ (pS))) (hf : F_X10_load_134 l0 l1 S l2 l3 l4 t0 t1 t2 = some r) (hk : Sum.elim (fun a' => gW X mX10_load 38 (L_X10_load_38 l0 l1 a') [] (s_X10_load_38 l0 l1 a').1 (s_X10_load_38 l0 l1 a').2 Q mc ms) (K_X10_load_38 X Q mc ms l0 l1) r) : gW X mX10_load 134 [some (.ref l0), some (.int l1), some (.int l2), some (.int l3), some (.int l4), none] [.int t2, .int t1, .ref t0] S.1 S.2 Q mc ms := by
  unfold F_X10_load_134 at hf
  replace hf := obind hf
  obtain ⟨S29, e30, hf⟩ := hf
  refine q_iast (pc := 134) dX10_load_134 e30 ?_
  refine r_iload (pc := 135) dX10_load_135 rfl ?_
  refine r_iconst (pc := 137) (-1 : Int32) dX10_load_137 (by decide) ?_
  refine r_icmp_ne (pc := 138) 224 dX10_load_138 (by decide) (fun hc => ?_) (fun hc => ?_)
  · rw [if_pos hc] at hf
    exact gW.weak (by simp [gle]) (W_X10_load_224 l0 l1 S29 l2 l3 r hf hk)
  · rw [if_neg hc] at hf
    refine r_aload_n (pc := 141) dX10_load_141 rfl ?_
    refine r_aload_n (pc := 142) dX10_load_142 rfl ?_
    replace hf := obind hf
    obtain ⟨x41, e42, hf⟩ := hf
    refine q_getA (pc := 143) dX10_load_143 gX10_133 e42 ?_
    refine r_iload_n (pc := 146) dX10_load_146 rfl ?_
    replace hf := obind hf
    obtain ⟨x43, e44, hf⟩ := hf
    refine q_iald (pc := 147) dX10_load_147 e44 ?_
    refine r_aload_n (pc := 148) dX10_load_148 rfl ?_
    replace hf := obind hf
    obtain ⟨x45, e46, hf⟩ := hf
    refine q_getA (pc := 149) dX10_load_149 gX10_115 e46 ?_
    refine r_iload_n (pc := 152) dX10_load_152 rfl ?_
    replace hf := obind hf
    obtain ⟨x47, e48, hf⟩ := hf
    refine q_iald (pc := 153) dX10_load_153 e48 ?_
    refine r_aload_n (pc := 154) dX10_load_154 rfl ?_
    replace hf := obind hf
    obtain ⟨x49, e50, hf⟩ := hf
    refine q_getA (pc := 155) dX10_load_155 gX10_118 e50 ?_
    refine r_iload_n (pc := 158) dX10_load_158 rfl ?_
    replace hf := obind hf
    obtain ⟨x51, e52, hf⟩ := hf
    refine q_iald (pc := 159) dX10_load_159 e52 ?_
    replace hf := obind hf
    obtain ⟨q53, e54, hf⟩ := hf
    refine q_callV (pc := 160) (v := none) (S' := q53) mX10_names 10 [.int x43, .int x47, .int x51] dX10_load_160 kX10_235 fX10_names iX10_names ⟨by decide, by decide⟩ rfl rfl rfl (Nat.le_of_ble_eq_true rfl) (og e54) (mc1 := 0) (ms1 := 0) (mc2 := mc) (ms2 := ms) (by omega) (by omega) (C_X10_names S29 l0 x43 x47 x51 q53 e54 (qR_mk _ _)) ?_
    refine r_aload_n (pc := 163) dX10_load_163 rfl ?_
    replace hf := obind hf
    obtain ⟨x55, e56, hf⟩ := hf
    refine q_getA (pc := 164) dX10_load_164 gX10_7 e56 ?_
    refine r_bipush (pc := 167) (123 : Int32) dX10_load_167 (by decide) ?_
    refine r_aload_n (pc := 169) dX10_load_169 rfl ?_
    replace hf := obind hf
    obtain ⟨x57, e58, hf⟩ := hf
    refine q_getA (pc := 170) dX10_load_170 gX10_133 e58 ?_
    refine r_iload_n (pc := 173) dX10_load_173 rfl ?_
    replace hf := obind hf
    obtain ⟨x59, e60, hf⟩ := hf
    refine q_iald (pc := 174) dX10_load_174 e60 ?_
    refine r_iadd (pc := 175) dX10_load_175 ?_
    refine r_aload_n (pc := 176) dX10_load_176 rfl ?_
    replace hf := obind hf
    obtain ⟨x61, e62, hf⟩ := hf
    refine q_getA (pc := 177) dX10_load_177 gX10_121 e62 ?_
    refine r_iload_n (pc := 180) dX10_load_180 rfl ?_
    replace hf := obind hf
    obtain ⟨x63, e64, hf⟩ := hf
    refine q_iald (pc := 181) dX10_load_181 e64 ?_
    replace hf := obind hf
    obtain ⟨S65, e66, hf⟩ := hf
    refine q_iast (pc := 182) dX10_load_182 e66 ?_
    refine r_aload_n (pc := 183) dX10_load_183 rfl ?_
    replace hf := obind hf
    obtain ⟨x67, e68, hf⟩ := hf
    refine q_getA (pc := 184) dX10_load_184 gX10_7 e68 ?_
    refine r_bipush (pc := 187) (62 : Int32) dX10_load_187 (by decide) ?_
    refine r_aload_n (pc := 189) dX10_load_189 rfl ?_
    replace hf := obind hf
    obtain ⟨x69, e70, hf⟩ := hf
    refine q_getA (pc := 190) dX10_load_190 gX10_133 e70 ?_
    refine r_iload_n (pc := 193) dX10_load_193 rfl ?_
    replace hf := obind hf
    obtain ⟨x71, e72, hf⟩ := hf
    refine q_iald (pc := 194) dX10_load_194 e72 ?_
    refine r_iadd (pc := 195) dX10_load_195 ?_
    refine r_aload_n (pc := 196) dX10_load_196 rfl ?_
    replace hf := obind hf
    obtain ⟨x73, e74, hf⟩ := hf
    refine q_getA (pc := 197) dX10_load_197 gX10_124 e74 ?_
    refine r_iload_n (pc := 200) dX10_load_200 rfl ?_
    replace hf := obind hf
    obtain ⟨x75, e76, hf⟩ := hf
    refine q_iald (pc := 201) dX10_load_201 e76 ?_
    replace hf := obind hf
    obtain ⟨S77, e78, hf⟩ := hf
    refine q_iast (pc := 202) dX10_load_202 e78 ?_
    refine r_aload_n (pc := 203) dX10_load_203 rfl ?_
    replace hf := obind hf
    obtain ⟨x79, e80, hf⟩ := hf
    refine q_getA (pc := 204) dX10_load_204 gX10_7 e80 ?_
    refine r_sipush (pc := 207) (184 : Int32) dX10_load_207 (by decide) ?_
    refine r_aload_n (pc := 210) dX10_load_210 rfl ?_
    replace hf := obind hf
    obtain ⟨x81, e82, hf⟩ := hf
    refine q_getA (pc := 211) dX10_load_211 gX10_133 e82 ?_
    refine r_iload_n (pc := 214) dX10_load_214 rfl ?_
    replace hf := obind hf
    obtain ⟨x83, e84, hf⟩ := hf
    refine q_iald (pc := 215) dX10_load_215 e84 ?_
    refine r_iadd (pc := 216) dX10_load_216 ?_
    refine r_aload_n (pc := 217) dX10_load_217 rfl ?_
    replace hf := obind hf
    obtain ⟨x85, e86, hf⟩ := hf
    refine q_getA (pc := 218) dX10_load_218 gX10_127 e86 ?_
    refine r_iload_n (pc := 221) dX10_load_221 rfl ?_
    replace hf := obind hf
    obtain ⟨x87, e88, hf⟩ := hf
    refine q_iald (pc := 222) dX10_load_222 e88 ?_
    replace hf := obind hf
    obtain ⟨S89, e90, hf⟩ := hf
    refine q_iast (pc := 223) dX10_load_223 e90 ?_
    exact gW.weak (by simp [gle]) (W_X10_load_224 l0 l1 S89 l2 l3 r hf hk)
def F_X10_load_78 (l0 : Nat) (l1 : Int32) (S : pS) (l2 : Int32) (l3 : Int32) (t0 : Int32) : Option ((Int32 × pS) ⊕ ((Int32 × Int32 × pS) ⊕ (pS))) := (F_X10_reasonFor S l0 t0 l3).bind fun q25 => if q25.1 ≤ 0 then ((oGA q25.2 l0 10 53).bind fun x27 => if ¬ t0 = (-1 : Int32) then (F_X10_load_134 l0 l1 q25.2 l2 l3 t0 x27 l2 t0) else ((F_X10_makes q25.2 l0).bind fun q91 => F_X10_load_134 l0 l1 q91.2 l2 l3 t0 x27 l2 q91.1)) else (some (.inr (.inl (l2, q25.1, q25.2))))
set_option maxRecDepth 100000 in
set_option maxHeartbeats 4000000 in
theorem W_X10_load_78 {X : pX} {Q : pO → Nat → pF → Prop} {mc ms : Nat} (l0 : Nat) (l1 : Int32) (S : pS) (l2 : Int32) (l3 : Int32) (t0 : Int32) (r : (Int32 × pS) ⊕ ((Int32 × Int32 × pS) ⊕ (pS))) (hf : F_X10_load_78 l0 l1 S l2 l3 t0 = some r) (hk : Sum.elim (fun a' => gW X mX10_load 38 (L_X10_load_38 l0 l1 a') [] (s_X10_load_38 l0 l1 a').1 (s_X10_load_38 l0 l1 a').2 Q mc ms) (K_X10_load_38 X Q mc ms l0 l1) r) : gW X mX10_load 78 [some (.ref l0), some (.int l1), some (.int l2), some (.int l3), none, none] [.int t0] S.1 S.2 Q mc ms := by
  unfold F_X10_load_78 at hf
  refine r_istore (pc := 78) dX10_load_78 (by decide) ?_
  change gW _ _ _ [some (.ref l0), some (.int l1), some (.int l2), some (.int l3), some (.int t0), none] _ _ _ _ _ _
  refine r_aload_n (pc := 80) dX10_load_80 rfl ?_
  refine r_iload (pc := 81) dX10_load_81 rfl ?_
  refine r_iload_n (pc := 83) dX10_load_83 rfl ?_
  replace hf := obind hf
  obtain ⟨q25, e26, hf⟩ := hf
  refine q_callV (pc := 84) (v := some (.int q25.1)) (S' := q25.2) mX10_reasonFor 10 [.int t0, .int l3] dX10_load_84 kX10_225 fX10_reasonFor iX10_reasonFor ⟨by decide, by decide⟩ rfl rfl rfl (Nat.le_of_ble_eq_true rfl) (og e26) (mc1 := 0) (ms1 := 0) (mc2 := mc) (ms2 := ms) (by omega) (by omega) (C_X10_reasonFor S l0 t0 l3 q25 e26 (qR_mk _ _)) ?_
  change gW _ _ _ _ (.int q25.1 :: _) _ _ _ _ _
  refine r_istore (pc := 87) dX10_load_87 (by decide) ?_
  change gW _ _ _ [some (.ref l0), some (.int l1), some (.int l2), some (.int l3), some (.int t0), some (.int q25.1)] _ _ _ _ _ _
  refine r_iload (pc := 89) dX10_load_89 rfl ?_
  refine r_if_le (pc := 91) 114 dX10_load_91 (by decide) (fun hc => ?_) (fun hc => ?_)
  · rw [if_pos hc] at hf
    refine r_aload_n (pc := 114) dX10_load_114 rfl ?_
    replace hf := obind hf
    obtain ⟨x27, e28, hf⟩ := hf
    refine q_getA (pc := 115) dX10_load_115 gX10_133 e28 ?_
    refine r_iload_n (pc := 118) dX10_load_118 rfl ?_
    refine r_iload (pc := 119) dX10_load_119 rfl ?_
    refine r_iconst (pc := 121) (-1 : Int32) dX10_load_121 (by decide) ?_
    refine r_icmp_ne (pc := 122) 132 dX10_load_122 (by decide) (fun hc => ?_) (fun hc => ?_)
    · rw [if_pos hc] at hf
      refine r_iload (pc := 132) dX10_load_132 rfl ?_
      exact gW.weak (by simp [gle]) (W_X10_load_134 l0 l1 q25.2 l2 l3 t0 x27 l2 t0 r hf hk)
    · rw [if_neg hc] at hf
      refine r_aload_n (pc := 125) dX10_load_125 rfl ?_
      replace hf := obind hf
      obtain ⟨q91, e92, hf⟩ := hf
      refine q_callV (pc := 126) (v := some (.int q91.1)) (S' := q91.2) mX10_makes 10 [] dX10_load_126 kX10_232 fX10_makes iX10_makes ⟨by decide, by decide⟩ rfl rfl rfl (Nat.le_of_ble_eq_true rfl) (og e92) (mc1 := 0) (ms1 := 0) (mc2 := mc) (ms2 := ms) (by omega) (by omega) (C_X10_makes q25.2 l0 q91 e92 (qR_mk _ _)) ?_
      change gW _ _ _ _ (.int q91.1 :: _) _ _ _ _ _
      refine r_goto (pc := 129) 134 dX10_load_129 (by decide) ?_
      exact gW.weak (by simp [gle]) (W_X10_load_134 l0 l1 q91.2 l2 l3 t0 x27 l2 q91.1 r hf hk)
  · rw [if_neg hc] at hf
    cases hf
    exact gW.weak (by simp [gle]) hk
def F_X10_load_38 (l0 : Nat) (l1 : Int32) : Int32 × pS → Option ((Int32 × pS) ⊕ ((Int32 × Int32 × pS) ⊕ (pS))) := fun a => (oGI a.2 l0 10 54).bind fun x9 => if x9 ≤ a.1 then (some (.inr (.inr a.2))) else ((F_X10_parentOf a.2 l0 a.1 l1).bind fun q11 => (oGA a.2 l0 10 52).bind fun x13 => (oAI a.2 x13 .int a.1).bind fun x15 => if ¬ x15 = (-1 : Int32) then ((oGA a.2 l0 10 53).bind fun x17 => (oGA a.2 l0 10 52).bind fun x19 => (oAI a.2 x19 .int a.1).bind fun x21 => (oAI a.2 x17 .int x21).bind fun x23 => F_X10_load_78 l0 l1 a.2 a.1 q11 x23) else (F_X10_load_78 l0 l1 a.2 a.1 q11 (-1 : Int32)))
set_option maxRecDepth 100000 in
set_option maxHeartbeats 4000000 in
theorem W_X10_load_38 {X : pX} {Q : pO → Nat → pF → Prop} {mc ms : Nat} (l0 : Nat) (l1 : Int32) : ∀ (a : Int32 × pS) (r : (Int32 × pS) ⊕ ((Int32 × Int32 × pS) ⊕ (pS))), F_X10_load_38 l0 l1 a = some r → Sum.elim (fun a' => gW X mX10_load 38 (L_X10_load_38 l0 l1 a') [] (s_X10_load_38 l0 l1 a').1 (s_X10_load_38 l0 l1 a').2 Q mc ms) (K_X10_load_38 X Q mc ms l0 l1) r → gW X mX10_load 38 (L_X10_load_38 l0 l1 a) [] (s_X10_load_38 l0 l1 a).1 (s_X10_load_38 l0 l1 a).2 Q mc ms := by
  intro a r hf hk
  obtain ⟨l2, S⟩ := a
  unfold F_X10_load_38 at hf
  try dsimp only at hf
  change gW _ _ _ [some (.ref l0), some (.int l1), some (.int l2), none, none, none] _ S.1 S.2 _ _ _
  refine r_iload_n (pc := 38) dX10_load_38 rfl ?_
  refine r_aload_n (pc := 39) dX10_load_39 rfl ?_
  replace hf := obind hf
  obtain ⟨x9, e10, hf⟩ := hf
  refine q_getI (pc := 40) dX10_load_40 gX10_348 e10 ?_
  refine r_icmp_ge (pc := 43) 251 dX10_load_43 (by decide) (fun hc => ?_) (fun hc => ?_)
  · rw [if_pos hc] at hf
    cases hf
    exact gW.weak (by simp [gle]) hk
  · rw [if_neg hc] at hf
    refine r_aload_n (pc := 46) dX10_load_46 rfl ?_
    refine r_iload_n (pc := 47) dX10_load_47 rfl ?_
    refine r_iload_n (pc := 48) dX10_load_48 rfl ?_
    replace hf := obind hf
    obtain ⟨q11, e12, hf⟩ := hf
    refine q_callV (pc := 49) (v := some (.int q11)) (S' := S) mX10_parentOf 10 [.int l2, .int l1] dX10_load_49 kX10_363 fX10_parentOf iX10_parentOf ⟨by decide, by decide⟩ rfl rfl rfl (Nat.le_of_ble_eq_true rfl) (og e12) (mc1 := 0) (ms1 := 0) (mc2 := mc) (ms2 := ms) (by omega) (by omega) (C_X10_parentOf S l0 l2 l1 q11 e12 (qR_mk _ _)) ?_
    change gW _ _ _ _ (.int q11 :: _) _ _ _ _ _
    refine r_istore_n (pc := 52) dX10_load_52 (by decide) ?_
    change gW _ _ _ [some (.ref l0), some (.int l1), some (.int l2), some (.int q11), none, none] _ _ _ _ _ _
    refine r_aload_n (pc := 53) dX10_load_53 rfl ?_
    replace hf := obind hf
    obtain ⟨x13, e14, hf⟩ := hf
    refine q_getA (pc := 54) dX10_load_54 gX10_130 e14 ?_
    refine r_iload_n (pc := 57) dX10_load_57 rfl ?_
    replace hf := obind hf
    obtain ⟨x15, e16, hf⟩ := hf
    refine q_iald (pc := 58) dX10_load_58 e16 ?_
    refine r_iconst (pc := 59) (-1 : Int32) dX10_load_59 (by decide) ?_
    refine r_icmp_ne (pc := 60) 67 dX10_load_60 (by decide) (fun hc => ?_) (fun hc => ?_)
    · rw [if_pos hc] at hf
      refine r_aload_n (pc := 67) dX10_load_67 rfl ?_
      replace hf := obind hf
      obtain ⟨x17, e18, hf⟩ := hf
      refine q_getA (pc := 68) dX10_load_68 gX10_133 e18 ?_
      refine r_aload_n (pc := 71) dX10_load_71 rfl ?_
      replace hf := obind hf
      obtain ⟨x19, e20, hf⟩ := hf
      refine q_getA (pc := 72) dX10_load_72 gX10_130 e20 ?_
      refine r_iload_n (pc := 75) dX10_load_75 rfl ?_
      replace hf := obind hf
      obtain ⟨x21, e22, hf⟩ := hf
      refine q_iald (pc := 76) dX10_load_76 e22 ?_
      replace hf := obind hf
      obtain ⟨x23, e24, hf⟩ := hf
      refine q_iald (pc := 77) dX10_load_77 e24 ?_
      exact gW.weak (by simp [gle]) (W_X10_load_78 l0 l1 S l2 q11 x23 r hf hk)
    · rw [if_neg hc] at hf
      refine r_iconst (pc := 63) (-1 : Int32) dX10_load_63 (by decide) ?_
      refine r_goto (pc := 64) 78 dX10_load_64 (by decide) ?_
      exact gW.weak (by simp [gle]) (W_X10_load_78 l0 l1 S l2 q11 (-1 : Int32) r hf hk)
def F_X10_load (S : pS) (a0 : Nat) (a1 : Int32) : Option (Int32 × pS) := (oF S a0 10).bind fun _ => (oPI S a0 10 0 (0 : Int32)).bind fun S1 => (F_X10_remembers S1 a0).bind fun q3 => (F_X10_isItem q3 a0 a1).bind fun q5 => if ¬ q5 = 0 then ((F_X10_readsOutline q3 a0).bind fun q7 => if ¬ q7.1 = 0 then ((iter (F_X10_load_38 a0 a1) fu ((0 : Int32), q7.2)).bind fun r93 => Sum.elim (fun q95 => (F_X10_takesBack q95.2.2 a0).bind fun q96 => (F_X10_refuses q96 a0 (60 : Int32) q95.1 q95.2.1).bind fun q98 => (F_X10_fails q98.2 a0 (3 : Int32)).bind fun q100 => some (q100.1, q100.2)) (fun q95 => (F_X10_keeps q95 a0).bind fun q102 => (oGI q102 a0 10 54).bind fun x104 => some (x104, q102)) r93) else ((F_X10_fails q7.2 a0 (2 : Int32)).bind fun q106 => some (q106.1, q106.2))) else ((F_X10_fails q3 a0 (1 : Int32)).bind fun q108 => some (q108.1, q108.2))
set_option maxRecDepth 100000 in
set_option maxHeartbeats 4000000 in
theorem C_X10_load {X : pX} {Q : pO → Nat → pF → Prop} (S : pS) (a0 : Nat) (a1 : Int32) (r : Int32 × pS) (hf : F_X10_load S a0 a1 = some r) (hk : Q (.inl (some (.int r.1))) r.2.1 r.2.2) : gC X mX10_load [.ref a0, .int a1] S.1 S.2 Q 0 0 := by
  refine gC_of (by decide) (Nat.le_of_ble_eq_true rfl) rfl ?_
  change gW _ _ _ [some (.ref a0), some (.int a1), none, none, none, none] _ _ _ _ _ _
  unfold F_X10_load at hf
  obtain ⟨_, _, hf⟩ := obind hf
  refine r_aload_n (pc := 0) dX10_load_0 rfl ?_
  refine r_iconst (pc := 1) (0 : Int32) dX10_load_1 (by decide) ?_
  replace hf := obind hf
  obtain ⟨S1, e2, hf⟩ := hf
  refine q_putI (pc := 2) dX10_load_2 pX10_139 rfl e2 ?_
  refine r_aload_n (pc := 5) dX10_load_5 rfl ?_
  replace hf := obind hf
  obtain ⟨q3, e4, hf⟩ := hf
  refine q_callV (pc := 6) (v := none) (S' := q3) mX10_remembers 10 [] dX10_load_6 kX10_218 fX10_remembers iX10_remembers ⟨by decide, by decide⟩ rfl rfl rfl (Nat.le_of_ble_eq_true rfl) (og e4) (mc1 := 0) (ms1 := 0) (mc2 := 0) (ms2 := 0) (by decide) (by decide) (C_X10_remembers S1 a0 q3 e4 (qR_mk _ _)) ?_
  refine r_aload_n (pc := 9) dX10_load_9 rfl ?_
  refine r_iload_n (pc := 10) dX10_load_10 rfl ?_
  replace hf := obind hf
  obtain ⟨q5, e6, hf⟩ := hf
  refine q_callV (pc := 11) (v := some (.int q5)) (S' := q3) mX10_isItem 10 [.int a1] dX10_load_11 kX10_146 fX10_isItem iX10_isItem ⟨by decide, by decide⟩ rfl rfl rfl (Nat.le_of_ble_eq_true rfl) (og e6) (mc1 := 0) (ms1 := 0) (mc2 := 0) (ms2 := 0) (by decide) (by decide) (C_X10_isItem q3 a0 a1 q5 e6 (qR_mk _ _)) ?_
  change gW _ _ _ _ (.int q5 :: _) _ _ _ _ _
  refine r_if_ne (pc := 14) 23 dX10_load_14 (by decide) (fun hc => ?_) (fun hc => ?_)
  · rw [if_pos hc] at hf
    refine r_aload_n (pc := 23) dX10_load_23 rfl ?_
    replace hf := obind hf
    obtain ⟨q7, e8, hf⟩ := hf
    refine q_callV (pc := 24) (v := some (.int q7.1)) (S' := q7.2) mX10_readsOutline 10 [] dX10_load_24 kX10_360 fX10_readsOutline iX10_readsOutline ⟨by decide, by decide⟩ rfl rfl rfl (Nat.le_of_ble_eq_true rfl) (og e8) (mc1 := 0) (ms1 := 0) (mc2 := 0) (ms2 := 0) (by decide) (by decide) (C_X10_readsOutline q3 a0 q7 e8 (qR_mk _ _)) ?_
    change gW _ _ _ _ (.int q7.1 :: _) _ _ _ _ _
    refine r_if_ne (pc := 27) 36 dX10_load_27 (by decide) (fun hc => ?_) (fun hc => ?_)
    · rw [if_pos hc] at hf
      refine r_iconst (pc := 36) (0 : Int32) dX10_load_36 (by decide) ?_
      refine r_istore_n (pc := 37) dX10_load_37 (by decide) ?_
      change gW _ _ _ [some (.ref a0), some (.int a1), some (.int (0 : Int32)), none, none, none] _ _ _ _ _ _
      replace hf := obind hf
      obtain ⟨r93, e94, hf⟩ := hf
      refine gW.weak (ls' := [some (.ref a0), some (.int a1), some (.int (0 : Int32)), none, none, none]) (by simp [gle]) ?_
      refine g_iter (L := L_X10_load_38 a0 a1) (s := s_X10_load_38 a0 a1) (K := K_X10_load_38 X Q _ _ a0 a1) (W_X10_load_38 a0 a1) fu ((0 : Int32), q7.2) _ e94 ?_
      rcases r93 with q95 | q95
      · simp only [Sum.elim_inl, Sum.elim_inr] at hf
        show gW _ _ 94 [some (.ref a0), some (.int a1), some (.int q95.1), none, none, some (.int q95.2.1)] [] q95.2.2.1 q95.2.2.2 _ _ _
        refine r_aload_n (pc := 94) dX10_load_94 rfl ?_
        replace hf := obind hf
        obtain ⟨q96, e97, hf⟩ := hf
        refine q_callV (pc := 95) (v := none) (S' := q96) mX10_takesBack 10 [] dX10_load_95 kX10_254 fX10_takesBack iX10_takesBack ⟨by decide, by decide⟩ rfl rfl rfl (Nat.le_of_ble_eq_true rfl) (og e97) (mc1 := 0) (ms1 := 0) (mc2 := 0) (ms2 := 0) (by decide) (by decide) (C_X10_takesBack q95.2.2 a0 q96 e97 (qR_mk _ _)) ?_
        refine r_aload_n (pc := 98) dX10_load_98 rfl ?_
        refine r_bipush (pc := 99) (60 : Int32) dX10_load_99 (by decide) ?_
        refine r_iload_n (pc := 101) dX10_load_101 rfl ?_
        refine r_iload (pc := 102) dX10_load_102 rfl ?_
        replace hf := obind hf
        obtain ⟨q98, e99, hf⟩ := hf
        refine q_callV (pc := 104) (v := some (.int q98.1)) (S' := q98.2) mX10_refuses 10 [.int (60 : Int32), .int q95.1, .int q95.2.1] dX10_load_104 kX10_228 fX10_refuses iX10_refuses ⟨by decide, by decide⟩ rfl rfl rfl (Nat.le_of_ble_eq_true rfl) (og e99) (mc1 := 0) (ms1 := 0) (mc2 := 0) (ms2 := 0) (by decide) (by decide) (C_X10_refuses q96 a0 (60 : Int32) q95.1 q95.2.1 q98 e99 (qR_mk _ _)) ?_
        change gW _ _ _ _ (.int q98.1 :: _) _ _ _ _ _
        refine r_pop (pc := 107) dX10_load_107 rfl ?_
        refine r_aload_n (pc := 108) dX10_load_108 rfl ?_
        refine r_iconst (pc := 109) (3 : Int32) dX10_load_109 (by decide) ?_
        replace hf := obind hf
        obtain ⟨q100, e101, hf⟩ := hf
        refine q_callV (pc := 110) (v := some (.int q100.1)) (S' := q100.2) mX10_fails 10 [.int (3 : Int32)] dX10_load_110 kX10_186 fX10_fails iX10_fails ⟨by decide, by decide⟩ rfl rfl rfl (Nat.le_of_ble_eq_true rfl) (og e101) (mc1 := 0) (ms1 := 0) (mc2 := 0) (ms2 := 0) (by decide) (by decide) (C_X10_fails q98.2 a0 (3 : Int32) q100 e101 (qR_mk _ _)) ?_
        change gW _ _ _ _ (.int q100.1 :: _) _ _ _ _ _
        refine r_ireturn (pc := 113) .int dX10_load_113 rfl rfl ?_
        cases hf
        exact hk
      · simp only [Sum.elim_inl, Sum.elim_inr] at hf
        show gW _ _ 251 [some (.ref a0), some (.int a1), none, none, none, none] [] q95.1 q95.2 _ _ _
        refine r_aload_n (pc := 251) dX10_load_251 rfl ?_
        replace hf := obind hf
        obtain ⟨q102, e103, hf⟩ := hf
        refine q_callV (pc := 252) (v := none) (S' := q102) mX10_keeps 10 [] dX10_load_252 kX10_242 fX10_keeps iX10_keeps ⟨by decide, by decide⟩ rfl rfl rfl (Nat.le_of_ble_eq_true rfl) (og e103) (mc1 := 0) (ms1 := 0) (mc2 := 0) (ms2 := 0) (by decide) (by decide) (C_X10_keeps q95 a0 q102 e103 (qR_mk _ _)) ?_
        refine r_aload_n (pc := 255) dX10_load_255 rfl ?_
        replace hf := obind hf
        obtain ⟨x104, e105, hf⟩ := hf
        refine q_getI (pc := 256) dX10_load_256 gX10_348 e105 ?_
        refine r_ireturn (pc := 259) .int dX10_load_259 rfl rfl ?_
        cases hf
        exact hk
    · rw [if_neg hc] at hf
      refine r_aload_n (pc := 30) dX10_load_30 rfl ?_
      refine r_iconst (pc := 31) (2 : Int32) dX10_load_31 (by decide) ?_
      replace hf := obind hf
      obtain ⟨q106, e107, hf⟩ := hf
      refine q_callV (pc := 32) (v := some (.int q106.1)) (S' := q106.2) mX10_fails 10 [.int (2 : Int32)] dX10_load_32 kX10_186 fX10_fails iX10_fails ⟨by decide, by decide⟩ rfl rfl rfl (Nat.le_of_ble_eq_true rfl) (og e107) (mc1 := 0) (ms1 := 0) (mc2 := 0) (ms2 := 0) (by decide) (by decide) (C_X10_fails q7.2 a0 (2 : Int32) q106 e107 (qR_mk _ _)) ?_
      change gW _ _ _ _ (.int q106.1 :: _) _ _ _ _ _
      refine r_ireturn (pc := 35) .int dX10_load_35 rfl rfl ?_
      cases hf
      exact hk
  · rw [if_neg hc] at hf
    refine r_aload_n (pc := 17) dX10_load_17 rfl ?_
    refine r_iconst (pc := 18) (1 : Int32) dX10_load_18 (by decide) ?_
    replace hf := obind hf
    obtain ⟨q108, e109, hf⟩ := hf
    refine q_callV (pc := 19) (v := some (.int q108.1)) (S' := q108.2) mX10_fails 10 [.int (1 : Int32)] dX10_load_19 kX10_186 fX10_fails iX10_fails ⟨by decide, by decide⟩ rfl rfl rfl (Nat.le_of_ble_eq_true rfl) (og e109) (mc1 := 0) (ms1 := 0) (mc2 := 0) (ms2 := 0) (by decide) (by decide) (C_X10_fails q3 a0 (1 : Int32) q108 e109 (qR_mk _ _)) ?_
    change gW _ _ _ _ (.int q108.1 :: _) _ _ _ _ _
    refine r_ireturn (pc := 22) .int dX10_load_22 rfl rfl ?_
    cases hf
    exact hk
def F_X10_errorPosition (S : pS) (a0 : Nat) : Option (Int32 × pS) := (oF S a0 10).bind fun _ => (oPI S a0 10 0 (0 : Int32)).bind fun S1 => (oGI S1 a0 10 11).bind fun x3 => if ¬ x3 = (-1 : Int32) then ((oGI S1 a0 10 11).bind fun x5 => some (x5, S1)) else ((F_X10_fails S1 a0 (1 : Int32)).bind fun q7 => some (q7.1, q7.2))
set_option maxRecDepth 100000 in
set_option maxHeartbeats 4000000 in
theorem C_X10_errorPosition {X : pX} {Q : pO → Nat → pF → Prop} (S : pS) (a0 : Nat) (r : Int32 × pS) (hf : F_X10_errorPosition S a0 = some r) (hk : Q (.inl (some (.int r.1))) r.2.1 r.2.2) : gC X mX10_errorPosition [.ref a0] S.1 S.2 Q 0 0 := by
  refine gC_of (by decide) (Nat.le_of_ble_eq_true rfl) rfl ?_
  change gW _ _ _ [some (.ref a0)] _ _ _ _ _ _
  unfold F_X10_errorPosition at hf
  obtain ⟨_, _, hf⟩ := obind hf
  refine r_aload_n (pc := 0) dX10_errorPosition_0 rfl ?_
  refine r_iconst (pc := 1) (0 : Int32) dX10_errorPosition_1 (by decide) ?_
  replace hf := obind hf
  obtain ⟨S1, e2, hf⟩ := hf
  refine q_putI (pc := 2) dX10_errorPosition_2 pX10_139 rfl e2 ?_
  refine r_aload_n (pc := 5) dX10_errorPosition_5 rfl ?_
  replace hf := obind hf
  obtain ⟨x3, e4, hf⟩ := hf
  refine q_getI (pc := 6) dX10_errorPosition_6 gX10_28 e4 ?_
  refine r_iconst (pc := 9) (-1 : Int32) dX10_errorPosition_9 (by decide) ?_
  refine r_icmp_ne (pc := 10) 21 dX10_errorPosition_10 (by decide) (fun hc => ?_) (fun hc => ?_)
  · rw [if_pos hc] at hf
    refine r_aload_n (pc := 21) dX10_errorPosition_21 rfl ?_
    replace hf := obind hf
    obtain ⟨x5, e6, hf⟩ := hf
    refine q_getI (pc := 22) dX10_errorPosition_22 gX10_28 e6 ?_
    refine r_ireturn (pc := 25) .int dX10_errorPosition_25 rfl rfl ?_
    cases hf
    exact hk
  · rw [if_neg hc] at hf
    refine r_aload_n (pc := 13) dX10_errorPosition_13 rfl ?_
    refine r_iconst (pc := 14) (1 : Int32) dX10_errorPosition_14 (by decide) ?_
    replace hf := obind hf
    obtain ⟨q7, e8, hf⟩ := hf
    refine q_callV (pc := 15) (v := some (.int q7.1)) (S' := q7.2) mX10_fails 10 [.int (1 : Int32)] dX10_errorPosition_15 kX10_186 fX10_fails iX10_fails ⟨by decide, by decide⟩ rfl rfl rfl (Nat.le_of_ble_eq_true rfl) (og e8) (mc1 := 0) (ms1 := 0) (mc2 := 0) (ms2 := 0) (by decide) (by decide) (C_X10_fails S1 a0 (1 : Int32) q7 e8 (qR_mk _ _)) ?_
    change gW _ _ _ _ (.int q7.1 :: _) _ _ _ _ _
    refine r_goto (pc := 18) 25 dX10_errorPosition_18 (by decide) ?_
    refine r_ireturn (pc := 25) .int dX10_errorPosition_25 rfl rfl ?_
    cases hf
    exact hk
def F_X10_refusal (S : pS) (a0 : Nat) (a1 : Int32) : Option (Int32 × pS) := (oF S a0 10).bind fun _ => (oPI S a0 10 0 (0 : Int32)).bind fun S1 => (oGI S1 a0 10 13).bind fun x3 => if ¬ x3 = 0 then ((oGI S1 a0 10 13).bind fun x5 => (F_X10_in S1 a1 (0 : Int32) (x5 - (1 : Int32))).bind fun q7 => if q7 = 0 then ((F_X10_fails S1 a0 (2 : Int32)).bind fun q9 => some (q9.1, q9.2)) else ((oGA S1 a0 10 12).bind fun x11 => (oAI S1 x11 .int a1).bind fun x13 => some (x13, S1))) else ((F_X10_fails S1 a0 (1 : Int32)).bind fun q15 => some (q15.1, q15.2))
set_option maxRecDepth 100000 in
set_option maxHeartbeats 4000000 in
theorem C_X10_refusal {X : pX} {Q : pO → Nat → pF → Prop} (S : pS) (a0 : Nat) (a1 : Int32) (r : Int32 × pS) (hf : F_X10_refusal S a0 a1 = some r) (hk : Q (.inl (some (.int r.1))) r.2.1 r.2.2) : gC X mX10_refusal [.ref a0, .int a1] S.1 S.2 Q 0 0 := by
  refine gC_of (by decide) (Nat.le_of_ble_eq_true rfl) rfl ?_
  change gW _ _ _ [some (.ref a0), some (.int a1)] _ _ _ _ _ _
  unfold F_X10_refusal at hf
  obtain ⟨_, _, hf⟩ := obind hf
  refine r_aload_n (pc := 0) dX10_refusal_0 rfl ?_
  refine r_iconst (pc := 1) (0 : Int32) dX10_refusal_1 (by decide) ?_
  replace hf := obind hf
  obtain ⟨S1, e2, hf⟩ := hf
  refine q_putI (pc := 2) dX10_refusal_2 pX10_139 rfl e2 ?_
  refine r_aload_n (pc := 5) dX10_refusal_5 rfl ?_
  replace hf := obind hf
  obtain ⟨x3, e4, hf⟩ := hf
  refine q_getI (pc := 6) dX10_refusal_6 gX10_183 e4 ?_
  refine r_if_ne (pc := 9) 18 dX10_refusal_9 (by decide) (fun hc => ?_) (fun hc => ?_)
  · rw [if_pos hc] at hf
    refine r_iload_n (pc := 18) dX10_refusal_18 rfl ?_
    refine r_iconst (pc := 19) (0 : Int32) dX10_refusal_19 (by decide) ?_
    refine r_aload_n (pc := 20) dX10_refusal_20 rfl ?_
    replace hf := obind hf
    obtain ⟨x5, e6, hf⟩ := hf
    refine q_getI (pc := 21) dX10_refusal_21 gX10_183 e6 ?_
    refine r_iconst (pc := 24) (1 : Int32) dX10_refusal_24 (by decide) ?_
    refine r_isub (pc := 25) dX10_refusal_25 ?_
    replace hf := obind hf
    obtain ⟨q7, e8, hf⟩ := hf
    refine q_callS (pc := 26) (v := some (.int q7)) (S' := S1) mX10_in [.int a1, .int (0 : Int32), .int (x5 - (1 : Int32))] dX10_refusal_26 kX10_142 fX10_in sX10_in ⟨by decide, by decide⟩ rfl rfl (Nat.le_of_ble_eq_true rfl) (mc1 := 0) (ms1 := 0) (mc2 := 0) (ms2 := 0) (by decide) (by decide) (C_X10_in S1 a1 (0 : Int32) (x5 - (1 : Int32)) q7 e8 (qR_mk _ _)) ?_
    change gW _ _ _ _ (.int q7 :: _) _ _ _ _ _
    refine r_if_eq (pc := 29) 41 dX10_refusal_29 (by decide) (fun hc => ?_) (fun hc => ?_)
    · rw [if_pos hc] at hf
      refine r_aload_n (pc := 41) dX10_refusal_41 rfl ?_
      refine r_iconst (pc := 42) (2 : Int32) dX10_refusal_42 (by decide) ?_
      replace hf := obind hf
      obtain ⟨q9, e10, hf⟩ := hf
      refine q_callV (pc := 43) (v := some (.int q9.1)) (S' := q9.2) mX10_fails 10 [.int (2 : Int32)] dX10_refusal_43 kX10_186 fX10_fails iX10_fails ⟨by decide, by decide⟩ rfl rfl rfl (Nat.le_of_ble_eq_true rfl) (og e10) (mc1 := 0) (ms1 := 0) (mc2 := 0) (ms2 := 0) (by decide) (by decide) (C_X10_fails S1 a0 (2 : Int32) q9 e10 (qR_mk _ _)) ?_
      change gW _ _ _ _ (.int q9.1 :: _) _ _ _ _ _
      refine r_ireturn (pc := 46) .int dX10_refusal_46 rfl rfl ?_
      cases hf
      exact hk
    · rw [if_neg hc] at hf
      refine r_aload_n (pc := 32) dX10_refusal_32 rfl ?_
      replace hf := obind hf
      obtain ⟨x11, e12, hf⟩ := hf
      refine q_getA (pc := 33) dX10_refusal_33 gX10_32 e12 ?_
      refine r_iload_n (pc := 36) dX10_refusal_36 rfl ?_
      replace hf := obind hf
      obtain ⟨x13, e14, hf⟩ := hf
      refine q_iald (pc := 37) dX10_refusal_37 e14 ?_
      refine r_goto (pc := 38) 46 dX10_refusal_38 (by decide) ?_
      refine r_ireturn (pc := 46) .int dX10_refusal_46 rfl rfl ?_
      cases hf
      exact hk
  · rw [if_neg hc] at hf
    refine r_aload_n (pc := 12) dX10_refusal_12 rfl ?_
    refine r_iconst (pc := 13) (1 : Int32) dX10_refusal_13 (by decide) ?_
    replace hf := obind hf
    obtain ⟨q15, e16, hf⟩ := hf
    refine q_callV (pc := 14) (v := some (.int q15.1)) (S' := q15.2) mX10_fails 10 [.int (1 : Int32)] dX10_refusal_14 kX10_186 fX10_fails iX10_fails ⟨by decide, by decide⟩ rfl rfl rfl (Nat.le_of_ble_eq_true rfl) (og e16) (mc1 := 0) (ms1 := 0) (mc2 := 0) (ms2 := 0) (by decide) (by decide) (C_X10_fails S1 a0 (1 : Int32) q15 e16 (qR_mk _ _)) ?_
    change gW _ _ _ _ (.int q15.1 :: _) _ _ _ _ _
    refine r_ireturn (pc := 17) .int dX10_refusal_17 rfl rfl ?_
    cases hf
    exact hk
def F_X10_isConsistent (S : pS) (a0 : Nat) : Option (Int32 × pS) := (oF S a0 10).bind fun _ => (oPI S a0 10 0 (0 : Int32)).bind fun S1 => some ((1 : Int32), S1)
set_option maxRecDepth 100000 in
set_option maxHeartbeats 4000000 in
theorem C_X10_isConsistent {X : pX} {Q : pO → Nat → pF → Prop} (S : pS) (a0 : Nat) (r : Int32 × pS) (hf : F_X10_isConsistent S a0 = some r) (hk : Q (.inl (some (.int r.1))) r.2.1 r.2.2) : gC X mX10_isConsistent [.ref a0] S.1 S.2 Q 0 0 := by
  refine gC_of (by decide) (Nat.le_of_ble_eq_true rfl) rfl ?_
  change gW _ _ _ [some (.ref a0)] _ _ _ _ _ _
  unfold F_X10_isConsistent at hf
  obtain ⟨_, _, hf⟩ := obind hf
  refine r_aload_n (pc := 0) dX10_isConsistent_0 rfl ?_
  refine r_iconst (pc := 1) (0 : Int32) dX10_isConsistent_1 (by decide) ?_
  replace hf := obind hf
  obtain ⟨S1, e2, hf⟩ := hf
  refine q_putI (pc := 2) dX10_isConsistent_2 pX10_139 rfl e2 ?_
  refine r_iconst (pc := 5) (1 : Int32) dX10_isConsistent_5 (by decide) ?_
  refine r_ireturn (pc := 6) .boolean dX10_isConsistent_6 rfl rfl ?_
  cases hf
  exact hk
abbrev L_X10_undo_30 (l0 : Nat) : Int32 × pS → List (Option Value) := fun a => [some (.ref l0), some (.int a.1)]
abbrev s_X10_undo_30 (l0 : Nat) : Int32 × pS → pS := fun a => a.2
abbrev K_X10_undo_30 (X : pX) (Q : pO → Nat → pF → Prop) (mc ms : Nat) (l0 : Nat) : pS → Prop := (fun b => gW X mX10_undo 64 [some (.ref l0), none] [] b.1 b.2 Q mc ms)
def F_X10_undo_30 (l0 : Nat) : Int32 × pS → Option ((Int32 × pS) ⊕ (pS)) := fun a => if (1709 : Int32) ≤ a.1 then (some (.inr a.2)) else ((oGA a.2 l0 10 1).bind fun x9 => (oGA a.2 l0 10 4).bind fun x11 => (oGI a.2 l0 10 5).bind fun x13 => (oAI a.2 x11 .int (((1709 : Int32) * x13) + a.1)).bind fun x15 => (oSI a.2 x9 .int a.1 x15).bind fun S17 => some (.inl (a.1 + (1 : Int32), S17)))
set_option maxRecDepth 100000 in
set_option maxHeartbeats 4000000 in
theorem W_X10_undo_30 {X : pX} {Q : pO → Nat → pF → Prop} {mc ms : Nat} (l0 : Nat) : ∀ (a : Int32 × pS) (r : (Int32 × pS) ⊕ (pS)), F_X10_undo_30 l0 a = some r → Sum.elim (fun a' => gW X mX10_undo 30 (L_X10_undo_30 l0 a') [] (s_X10_undo_30 l0 a').1 (s_X10_undo_30 l0 a').2 Q mc ms) (K_X10_undo_30 X Q mc ms l0) r → gW X mX10_undo 30 (L_X10_undo_30 l0 a) [] (s_X10_undo_30 l0 a).1 (s_X10_undo_30 l0 a).2 Q mc ms := by
  intro a r hf hk
  obtain ⟨l1, S⟩ := a
  unfold F_X10_undo_30 at hf
  try dsimp only at hf
  change gW _ _ _ [some (.ref l0), some (.int l1)] _ S.1 S.2 _ _ _
  refine r_iload_n (pc := 30) dX10_undo_30 rfl ?_
  refine r_sipush (pc := 31) (1709 : Int32) dX10_undo_31 (by decide) ?_
  refine r_icmp_ge (pc := 34) 64 dX10_undo_34 (by decide) (fun hc => ?_) (fun hc => ?_)
  · rw [if_pos hc] at hf
    cases hf
    exact gW.weak (by simp [gle]) hk
  · rw [if_neg hc] at hf
    refine r_aload_n (pc := 37) dX10_undo_37 rfl ?_
    replace hf := obind hf
    obtain ⟨x9, e10, hf⟩ := hf
    refine q_getA (pc := 38) dX10_undo_38 gX10_7 e10 ?_
    refine r_iload_n (pc := 41) dX10_undo_41 rfl ?_
    refine r_aload_n (pc := 42) dX10_undo_42 rfl ?_
    replace hf := obind hf
    obtain ⟨x11, e12, hf⟩ := hf
    refine q_getA (pc := 43) dX10_undo_43 gX10_19 e12 ?_
    refine r_sipush (pc := 46) (1709 : Int32) dX10_undo_46 (by decide) ?_
    refine r_aload_n (pc := 49) dX10_undo_49 rfl ?_
    replace hf := obind hf
    obtain ⟨x13, e14, hf⟩ := hf
    refine q_getI (pc := 50) dX10_undo_50 gX10_157 e14 ?_
    refine r_imul (pc := 53) dX10_undo_53 ?_
    refine r_iload_n (pc := 54) dX10_undo_54 rfl ?_
    refine r_iadd (pc := 55) dX10_undo_55 ?_
    replace hf := obind hf
    obtain ⟨x15, e16, hf⟩ := hf
    refine q_iald (pc := 56) dX10_undo_56 e16 ?_
    replace hf := obind hf
    obtain ⟨S17, e18, hf⟩ := hf
    refine q_iast (pc := 57) dX10_undo_57 e18 ?_
    refine r_iinc (pc := 58) dX10_undo_58 rfl (by decide) ?_
    change gW _ _ _ [some (.ref l0), some (.int (l1 + (1 : Int32)))] _ _ _ _ _ _
    refine r_goto (pc := 61) 30 dX10_undo_61 (by decide) ?_
    cases hf
    exact gW.weak (by simp [gle]) hk
def F_X10_undo (S : pS) (a0 : Nat) : Option (Int32 × pS) := (oF S a0 10).bind fun _ => (oPI S a0 10 0 (0 : Int32)).bind fun S1 => (oGI S1 a0 10 5).bind fun x3 => if ¬ x3 = 0 then ((oGI S1 a0 10 5).bind fun x5 => (oPI S1 a0 10 5 (x5 - (1 : Int32))).bind fun S7 => (iter (F_X10_undo_30 a0) fu ((0 : Int32), S7)).bind fun r19 => (F_X10_checksHoists r19 a0).bind fun q21 => (oGI q21 a0 10 5).bind fun x23 => some (x23, q21)) else ((F_X10_fails S1 a0 (1 : Int32)).bind fun q25 => some (q25.1, q25.2))
set_option maxRecDepth 100000 in
set_option maxHeartbeats 4000000 in
theorem C_X10_undo {X : pX} {Q : pO → Nat → pF → Prop} (S : pS) (a0 : Nat) (r : Int32 × pS) (hf : F_X10_undo S a0 = some r) (hk : Q (.inl (some (.int r.1))) r.2.1 r.2.2) : gC X mX10_undo [.ref a0] S.1 S.2 Q 0 0 := by
  refine gC_of (by decide) (Nat.le_of_ble_eq_true rfl) rfl ?_
  change gW _ _ _ [some (.ref a0), none] _ _ _ _ _ _
  unfold F_X10_undo at hf
  obtain ⟨_, _, hf⟩ := obind hf
  refine r_aload_n (pc := 0) dX10_undo_0 rfl ?_
  refine r_iconst (pc := 1) (0 : Int32) dX10_undo_1 (by decide) ?_
  replace hf := obind hf
  obtain ⟨S1, e2, hf⟩ := hf
  refine q_putI (pc := 2) dX10_undo_2 pX10_139 rfl e2 ?_
  refine r_aload_n (pc := 5) dX10_undo_5 rfl ?_
  replace hf := obind hf
  obtain ⟨x3, e4, hf⟩ := hf
  refine q_getI (pc := 6) dX10_undo_6 gX10_157 e4 ?_
  refine r_if_ne (pc := 9) 18 dX10_undo_9 (by decide) (fun hc => ?_) (fun hc => ?_)
  · rw [if_pos hc] at hf
    refine r_aload_n (pc := 18) dX10_undo_18 rfl ?_
    refine r_dup (pc := 19) dX10_undo_19 rfl ?_
    replace hf := obind hf
    obtain ⟨x5, e6, hf⟩ := hf
    refine q_getI (pc := 20) dX10_undo_20 gX10_157 e6 ?_
    refine r_iconst (pc := 23) (1 : Int32) dX10_undo_23 (by decide) ?_
    refine r_isub (pc := 24) dX10_undo_24 ?_
    replace hf := obind hf
    obtain ⟨S7, e8, hf⟩ := hf
    refine q_putI (pc := 25) dX10_undo_25 pX10_157 rfl e8 ?_
    refine r_iconst (pc := 28) (0 : Int32) dX10_undo_28 (by decide) ?_
    refine r_istore_n (pc := 29) dX10_undo_29 (by decide) ?_
    change gW _ _ _ [some (.ref a0), some (.int (0 : Int32))] _ _ _ _ _ _
    replace hf := obind hf
    obtain ⟨r19, e20, hf⟩ := hf
    refine gW.weak (ls' := [some (.ref a0), some (.int (0 : Int32))]) (by simp [gle]) ?_
    refine g_iter (L := L_X10_undo_30 a0) (s := s_X10_undo_30 a0) (K := K_X10_undo_30 X Q _ _ a0) (W_X10_undo_30 a0) fu ((0 : Int32), S7) _ e20 ?_
    show gW _ _ 64 [some (.ref a0), none] [] r19.1 r19.2 _ _ _
    refine r_aload_n (pc := 64) dX10_undo_64 rfl ?_
    replace hf := obind hf
    obtain ⟨q21, e22, hf⟩ := hf
    refine q_callV (pc := 65) (v := none) (S' := q21) mX10_checksHoists 10 [] dX10_undo_65 kX10_160 fX10_checksHoists iX10_checksHoists ⟨by decide, by decide⟩ rfl rfl rfl (Nat.le_of_ble_eq_true rfl) (og e22) (mc1 := 0) (ms1 := 0) (mc2 := 0) (ms2 := 0) (by decide) (by decide) (C_X10_checksHoists r19 a0 q21 e22 (qR_mk _ _)) ?_
    refine r_aload_n (pc := 68) dX10_undo_68 rfl ?_
    replace hf := obind hf
    obtain ⟨x23, e24, hf⟩ := hf
    refine q_getI (pc := 69) dX10_undo_69 gX10_157 e24 ?_
    refine r_ireturn (pc := 72) .int dX10_undo_72 rfl rfl ?_
    cases hf
    exact hk
  · rw [if_neg hc] at hf
    refine r_aload_n (pc := 12) dX10_undo_12 rfl ?_
    refine r_iconst (pc := 13) (1 : Int32) dX10_undo_13 (by decide) ?_
    replace hf := obind hf
    obtain ⟨q25, e26, hf⟩ := hf
    refine q_callV (pc := 14) (v := some (.int q25.1)) (S' := q25.2) mX10_fails 10 [.int (1 : Int32)] dX10_undo_14 kX10_186 fX10_fails iX10_fails ⟨by decide, by decide⟩ rfl rfl rfl (Nat.le_of_ble_eq_true rfl) (og e26) (mc1 := 0) (ms1 := 0) (mc2 := 0) (ms2 := 0) (by decide) (by decide) (C_X10_fails S1 a0 (1 : Int32) q25 e26 (qR_mk _ _)) ?_
    change gW _ _ _ _ (.int q25.1 :: _) _ _ _ _ _
    refine r_ireturn (pc := 17) .int dX10_undo_17 rfl rfl ?_
    cases hf
    exact hk
abbrev L_X10_snapshot_7 (l0 : Nat) : Int32 × pS → List (Option Value) := fun a => [some (.ref l0), some (.int a.1)]
abbrev s_X10_snapshot_7 (l0 : Nat) : Int32 × pS → pS := fun a => a.2
abbrev K_X10_snapshot_7 (X : pX) (Q : pO → Nat → pF → Prop) (mc ms : Nat) (l0 : Nat) : pS → Prop := (fun b => gW X mX10_snapshot 32 [some (.ref l0), none] [] b.1 b.2 Q mc ms)
def F_X10_snapshot_7 (l0 : Nat) : Int32 × pS → Option ((Int32 × pS) ⊕ (pS)) := fun a => if (1709 : Int32) ≤ a.1 then (some (.inr a.2)) else ((oGA a.2 l0 10 2).bind fun x3 => (oGA a.2 l0 10 1).bind fun x5 => (oAI a.2 x5 .int a.1).bind fun x7 => (oSI a.2 x3 .int a.1 x7).bind fun S9 => some (.inl (a.1 + (1 : Int32), S9)))
set_option maxRecDepth 100000 in
set_option maxHeartbeats 4000000 in
theorem W_X10_snapshot_7 {X : pX} {Q : pO → Nat → pF → Prop} {mc ms : Nat} (l0 : Nat) : ∀ (a : Int32 × pS) (r : (Int32 × pS) ⊕ (pS)), F_X10_snapshot_7 l0 a = some r → Sum.elim (fun a' => gW X mX10_snapshot 7 (L_X10_snapshot_7 l0 a') [] (s_X10_snapshot_7 l0 a').1 (s_X10_snapshot_7 l0 a').2 Q mc ms) (K_X10_snapshot_7 X Q mc ms l0) r → gW X mX10_snapshot 7 (L_X10_snapshot_7 l0 a) [] (s_X10_snapshot_7 l0 a).1 (s_X10_snapshot_7 l0 a).2 Q mc ms := by
  intro a r hf hk
  obtain ⟨l1, S⟩ := a
  unfold F_X10_snapshot_7 at hf
  try dsimp only at hf
  change gW _ _ _ [some (.ref l0), some (.int l1)] _ S.1 S.2 _ _ _
  refine r_iload_n (pc := 7) dX10_snapshot_7 rfl ?_
  refine r_sipush (pc := 8) (1709 : Int32) dX10_snapshot_8 (by decide) ?_
  refine r_icmp_ge (pc := 11) 32 dX10_snapshot_11 (by decide) (fun hc => ?_) (fun hc => ?_)
  · rw [if_pos hc] at hf
    cases hf
    exact gW.weak (by simp [gle]) hk
  · rw [if_neg hc] at hf
    refine r_aload_n (pc := 14) dX10_snapshot_14 rfl ?_
    replace hf := obind hf
    obtain ⟨x3, e4, hf⟩ := hf
    refine q_getA (pc := 15) dX10_snapshot_15 gX10_13 e4 ?_
    refine r_iload_n (pc := 18) dX10_snapshot_18 rfl ?_
    refine r_aload_n (pc := 19) dX10_snapshot_19 rfl ?_
    replace hf := obind hf
    obtain ⟨x5, e6, hf⟩ := hf
    refine q_getA (pc := 20) dX10_snapshot_20 gX10_7 e6 ?_
    refine r_iload_n (pc := 23) dX10_snapshot_23 rfl ?_
    replace hf := obind hf
    obtain ⟨x7, e8, hf⟩ := hf
    refine q_iald (pc := 24) dX10_snapshot_24 e8 ?_
    replace hf := obind hf
    obtain ⟨S9, e10, hf⟩ := hf
    refine q_iast (pc := 25) dX10_snapshot_25 e10 ?_
    refine r_iinc (pc := 26) dX10_snapshot_26 rfl (by decide) ?_
    change gW _ _ _ [some (.ref l0), some (.int (l1 + (1 : Int32)))] _ _ _ _ _ _
    refine r_goto (pc := 29) 7 dX10_snapshot_29 (by decide) ?_
    cases hf
    exact gW.weak (by simp [gle]) hk
def F_X10_snapshot (S : pS) (a0 : Nat) : Option (Int32 × pS) := (oF S a0 10).bind fun _ => (oPI S a0 10 0 (0 : Int32)).bind fun S1 => (iter (F_X10_snapshot_7 a0) fu ((0 : Int32), S1)).bind fun r11 => (oPZ r11 a0 10 6 (1 : Int32)).bind fun S13 => (F_X10_items S13 a0).bind fun q15 => some (q15, S13)
set_option maxRecDepth 100000 in
set_option maxHeartbeats 4000000 in
theorem C_X10_snapshot {X : pX} {Q : pO → Nat → pF → Prop} (S : pS) (a0 : Nat) (r : Int32 × pS) (hf : F_X10_snapshot S a0 = some r) (hk : Q (.inl (some (.int r.1))) r.2.1 r.2.2) : gC X mX10_snapshot [.ref a0] S.1 S.2 Q 0 0 := by
  refine gC_of (by decide) (Nat.le_of_ble_eq_true rfl) rfl ?_
  change gW _ _ _ [some (.ref a0), none] _ _ _ _ _ _
  unfold F_X10_snapshot at hf
  obtain ⟨_, _, hf⟩ := obind hf
  refine r_aload_n (pc := 0) dX10_snapshot_0 rfl ?_
  refine r_iconst (pc := 1) (0 : Int32) dX10_snapshot_1 (by decide) ?_
  replace hf := obind hf
  obtain ⟨S1, e2, hf⟩ := hf
  refine q_putI (pc := 2) dX10_snapshot_2 pX10_139 rfl e2 ?_
  refine r_iconst (pc := 5) (0 : Int32) dX10_snapshot_5 (by decide) ?_
  refine r_istore_n (pc := 6) dX10_snapshot_6 (by decide) ?_
  change gW _ _ _ [some (.ref a0), some (.int (0 : Int32))] _ _ _ _ _ _
  replace hf := obind hf
  obtain ⟨r11, e12, hf⟩ := hf
  refine gW.weak (ls' := [some (.ref a0), some (.int (0 : Int32))]) (by simp [gle]) ?_
  refine g_iter (L := L_X10_snapshot_7 a0) (s := s_X10_snapshot_7 a0) (K := K_X10_snapshot_7 X Q _ _ a0) (W_X10_snapshot_7 a0) fu ((0 : Int32), S1) _ e12 ?_
  show gW _ _ 32 [some (.ref a0), none] [] r11.1 r11.2 _ _ _
  refine r_aload_n (pc := 32) dX10_snapshot_32 rfl ?_
  refine r_iconst (pc := 33) (1 : Int32) dX10_snapshot_33 (by decide) ?_
  replace hf := obind hf
  obtain ⟨S13, e14, hf⟩ := hf
  refine q_putZ (pc := 34) dX10_snapshot_34 pX10_366 rfl e14 ?_
  refine r_aload_n (pc := 37) dX10_snapshot_37 rfl ?_
  replace hf := obind hf
  obtain ⟨q15, e16, hf⟩ := hf
  refine q_callV (pc := 38) (v := some (.int q15)) (S' := S13) mX10_items 10 [] dX10_snapshot_38 kX10_190 fX10_items iX10_items ⟨by decide, by decide⟩ rfl rfl rfl (Nat.le_of_ble_eq_true rfl) (og e16) (mc1 := 0) (ms1 := 0) (mc2 := 0) (ms2 := 0) (by decide) (by decide) (C_X10_items S13 a0 q15 e16 (qR_mk _ _)) ?_
  change gW _ _ _ _ (.int q15 :: _) _ _ _ _ _
  refine r_ireturn (pc := 41) .int dX10_snapshot_41 rfl rfl ?_
  cases hf
  exact hk
abbrev L_X10_restore_20 (l0 : Nat) : Int32 × pS → List (Option Value) := fun a => [some (.ref l0), some (.int a.1)]
abbrev s_X10_restore_20 (l0 : Nat) : Int32 × pS → pS := fun a => a.2
abbrev K_X10_restore_20 (X : pX) (Q : pO → Nat → pF → Prop) (mc ms : Nat) (l0 : Nat) : pS → Prop := (fun b => gW X mX10_restore 45 [some (.ref l0), none] [] b.1 b.2 Q mc ms)
def F_X10_restore_20 (l0 : Nat) : Int32 × pS → Option ((Int32 × pS) ⊕ (pS)) := fun a => if (1709 : Int32) ≤ a.1 then (some (.inr a.2)) else ((oGA a.2 l0 10 1).bind fun x5 => (oGA a.2 l0 10 2).bind fun x7 => (oAI a.2 x7 .int a.1).bind fun x9 => (oSI a.2 x5 .int a.1 x9).bind fun S11 => some (.inl (a.1 + (1 : Int32), S11)))
set_option maxRecDepth 100000 in
set_option maxHeartbeats 4000000 in
theorem W_X10_restore_20 {X : pX} {Q : pO → Nat → pF → Prop} {mc ms : Nat} (l0 : Nat) : ∀ (a : Int32 × pS) (r : (Int32 × pS) ⊕ (pS)), F_X10_restore_20 l0 a = some r → Sum.elim (fun a' => gW X mX10_restore 20 (L_X10_restore_20 l0 a') [] (s_X10_restore_20 l0 a').1 (s_X10_restore_20 l0 a').2 Q mc ms) (K_X10_restore_20 X Q mc ms l0) r → gW X mX10_restore 20 (L_X10_restore_20 l0 a) [] (s_X10_restore_20 l0 a).1 (s_X10_restore_20 l0 a).2 Q mc ms := by
  intro a r hf hk
  obtain ⟨l1, S⟩ := a
  unfold F_X10_restore_20 at hf
  try dsimp only at hf
  change gW _ _ _ [some (.ref l0), some (.int l1)] _ S.1 S.2 _ _ _
  refine r_iload_n (pc := 20) dX10_restore_20 rfl ?_
  refine r_sipush (pc := 21) (1709 : Int32) dX10_restore_21 (by decide) ?_
  refine r_icmp_ge (pc := 24) 45 dX10_restore_24 (by decide) (fun hc => ?_) (fun hc => ?_)
  · rw [if_pos hc] at hf
    cases hf
    exact gW.weak (by simp [gle]) hk
  · rw [if_neg hc] at hf
    refine r_aload_n (pc := 27) dX10_restore_27 rfl ?_
    replace hf := obind hf
    obtain ⟨x5, e6, hf⟩ := hf
    refine q_getA (pc := 28) dX10_restore_28 gX10_7 e6 ?_
    refine r_iload_n (pc := 31) dX10_restore_31 rfl ?_
    refine r_aload_n (pc := 32) dX10_restore_32 rfl ?_
    replace hf := obind hf
    obtain ⟨x7, e8, hf⟩ := hf
    refine q_getA (pc := 33) dX10_restore_33 gX10_13 e8 ?_
    refine r_iload_n (pc := 36) dX10_restore_36 rfl ?_
    replace hf := obind hf
    obtain ⟨x9, e10, hf⟩ := hf
    refine q_iald (pc := 37) dX10_restore_37 e10 ?_
    replace hf := obind hf
    obtain ⟨S11, e12, hf⟩ := hf
    refine q_iast (pc := 38) dX10_restore_38 e12 ?_
    refine r_iinc (pc := 39) dX10_restore_39 rfl (by decide) ?_
    change gW _ _ _ [some (.ref l0), some (.int (l1 + (1 : Int32)))] _ _ _ _ _ _
    refine r_goto (pc := 42) 20 dX10_restore_42 (by decide) ?_
    cases hf
    exact gW.weak (by simp [gle]) hk
def F_X10_restore (S : pS) (a0 : Nat) : Option (Int32 × pS) := (oF S a0 10).bind fun _ => (oPI S a0 10 0 (0 : Int32)).bind fun S1 => (oGI S1 a0 10 6).bind fun x3 => if ¬ x3 = 0 then ((iter (F_X10_restore_20 a0) fu ((0 : Int32), S1)).bind fun r13 => (oPI r13 a0 10 5 (0 : Int32)).bind fun S15 => (F_X10_checksHoists S15 a0).bind fun q17 => (F_X10_items q17 a0).bind fun q19 => some (q19, q17)) else ((F_X10_fails S1 a0 (1 : Int32)).bind fun q21 => some (q21.1, q21.2))
set_option maxRecDepth 100000 in
set_option maxHeartbeats 4000000 in
theorem C_X10_restore {X : pX} {Q : pO → Nat → pF → Prop} (S : pS) (a0 : Nat) (r : Int32 × pS) (hf : F_X10_restore S a0 = some r) (hk : Q (.inl (some (.int r.1))) r.2.1 r.2.2) : gC X mX10_restore [.ref a0] S.1 S.2 Q 0 0 := by
  refine gC_of (by decide) (Nat.le_of_ble_eq_true rfl) rfl ?_
  change gW _ _ _ [some (.ref a0), none] _ _ _ _ _ _
  unfold F_X10_restore at hf
  obtain ⟨_, _, hf⟩ := obind hf
  refine r_aload_n (pc := 0) dX10_restore_0 rfl ?_
  refine r_iconst (pc := 1) (0 : Int32) dX10_restore_1 (by decide) ?_
  replace hf := obind hf
  obtain ⟨S1, e2, hf⟩ := hf
  refine q_putI (pc := 2) dX10_restore_2 pX10_139 rfl e2 ?_
  refine r_aload_n (pc := 5) dX10_restore_5 rfl ?_
  replace hf := obind hf
  obtain ⟨x3, e4, hf⟩ := hf
  refine q_getI (pc := 6) dX10_restore_6 gX10_366 e4 ?_
  refine r_if_ne (pc := 9) 18 dX10_restore_9 (by decide) (fun hc => ?_) (fun hc => ?_)
  · rw [if_pos hc] at hf
    refine r_iconst (pc := 18) (0 : Int32) dX10_restore_18 (by decide) ?_
    refine r_istore_n (pc := 19) dX10_restore_19 (by decide) ?_
    change gW _ _ _ [some (.ref a0), some (.int (0 : Int32))] _ _ _ _ _ _
    replace hf := obind hf
    obtain ⟨r13, e14, hf⟩ := hf
    refine gW.weak (ls' := [some (.ref a0), some (.int (0 : Int32))]) (by simp [gle]) ?_
    refine g_iter (L := L_X10_restore_20 a0) (s := s_X10_restore_20 a0) (K := K_X10_restore_20 X Q _ _ a0) (W_X10_restore_20 a0) fu ((0 : Int32), S1) _ e14 ?_
    show gW _ _ 45 [some (.ref a0), none] [] r13.1 r13.2 _ _ _
    refine r_aload_n (pc := 45) dX10_restore_45 rfl ?_
    refine r_iconst (pc := 46) (0 : Int32) dX10_restore_46 (by decide) ?_
    replace hf := obind hf
    obtain ⟨S15, e16, hf⟩ := hf
    refine q_putI (pc := 47) dX10_restore_47 pX10_157 rfl e16 ?_
    refine r_aload_n (pc := 50) dX10_restore_50 rfl ?_
    replace hf := obind hf
    obtain ⟨q17, e18, hf⟩ := hf
    refine q_callV (pc := 51) (v := none) (S' := q17) mX10_checksHoists 10 [] dX10_restore_51 kX10_160 fX10_checksHoists iX10_checksHoists ⟨by decide, by decide⟩ rfl rfl rfl (Nat.le_of_ble_eq_true rfl) (og e18) (mc1 := 0) (ms1 := 0) (mc2 := 0) (ms2 := 0) (by decide) (by decide) (C_X10_checksHoists S15 a0 q17 e18 (qR_mk _ _)) ?_
    refine r_aload_n (pc := 54) dX10_restore_54 rfl ?_
    replace hf := obind hf
    obtain ⟨q19, e20, hf⟩ := hf
    refine q_callV (pc := 55) (v := some (.int q19)) (S' := q17) mX10_items 10 [] dX10_restore_55 kX10_190 fX10_items iX10_items ⟨by decide, by decide⟩ rfl rfl rfl (Nat.le_of_ble_eq_true rfl) (og e20) (mc1 := 0) (ms1 := 0) (mc2 := 0) (ms2 := 0) (by decide) (by decide) (C_X10_items q17 a0 q19 e20 (qR_mk _ _)) ?_
    change gW _ _ _ _ (.int q19 :: _) _ _ _ _ _
    refine r_ireturn (pc := 58) .int dX10_restore_58 rfl rfl ?_
    cases hf
    exact hk
  · rw [if_neg hc] at hf
    refine r_aload_n (pc := 12) dX10_restore_12 rfl ?_
    refine r_iconst (pc := 13) (1 : Int32) dX10_restore_13 (by decide) ?_
    replace hf := obind hf
    obtain ⟨q21, e22, hf⟩ := hf
    refine q_callV (pc := 14) (v := some (.int q21.1)) (S' := q21.2) mX10_fails 10 [.int (1 : Int32)] dX10_restore_14 kX10_186 fX10_fails iX10_fails ⟨by decide, by decide⟩ rfl rfl rfl (Nat.le_of_ble_eq_true rfl) (og e22) (mc1 := 0) (ms1 := 0) (mc2 := 0) (ms2 := 0) (by decide) (by decide) (C_X10_fails S1 a0 (1 : Int32) q21 e22 (qR_mk _ _)) ?_
    change gW _ _ _ _ (.int q21.1 :: _) _ _ _ _ _
    refine r_ireturn (pc := 17) .int dX10_restore_17 rfl rfl ?_
    cases hf
    exact hk
