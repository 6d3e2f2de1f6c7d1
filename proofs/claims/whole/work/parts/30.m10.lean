def F_X10_here (S : pS) (a0 : Nat) : Option (Int32) := (oF S a0 10).bind fun _ => (oGI S a0 10 21).bind fun x1 => (oGI S a0 10 22).bind fun x3 => if x3 ≤ x1 then (some (-1 : Int32)) else ((oGA S a0 10 9).bind fun x5 => (oGI S a0 10 21).bind fun x7 => (oAI S x5 .int x7).bind fun x9 => some x9)
set_option maxRecDepth 100000 in
set_option maxHeartbeats 4000000 in
theorem C_X10_here {X : pX} {Q : pO → Nat → pF → Prop} (S : pS) (a0 : Nat) (r : Int32) (hf : F_X10_here S a0 = some r) (hk : Q (.inl (some (.int r))) S.1 S.2) : gC X mX10_here [.ref a0] S.1 S.2 Q 0 0 := by
  refine gC_of (by decide) (Nat.le_of_ble_eq_true rfl) rfl ?_
  change gW _ _ _ [some (.ref a0)] _ _ _ _ _ _
  unfold F_X10_here at hf
  obtain ⟨_, _, hf⟩ := obind hf
  refine r_aload_n (pc := 0) dX10_here_0 rfl ?_
  replace hf := obind hf
  obtain ⟨x1, e2, hf⟩ := hf
  refine q_getI (pc := 1) dX10_here_1 gX10_199 e2 ?_
  refine r_aload_n (pc := 4) dX10_here_4 rfl ?_
  replace hf := obind hf
  obtain ⟨x3, e4, hf⟩ := hf
  refine q_getI (pc := 5) dX10_here_5 gX10_202 e4 ?_
  refine r_icmp_ge (pc := 8) 23 dX10_here_8 (by decide) (fun hc => ?_) (fun hc => ?_)
  · rw [if_pos hc] at hf
    refine r_iconst (pc := 23) (-1 : Int32) dX10_here_23 (by decide) ?_
    refine r_ireturn (pc := 24) .int dX10_here_24 rfl rfl ?_
    cases hf
    exact hk
  · rw [if_neg hc] at hf
    refine r_aload_n (pc := 11) dX10_here_11 rfl ?_
    replace hf := obind hf
    obtain ⟨x5, e6, hf⟩ := hf
    refine q_getA (pc := 12) dX10_here_12 gX10_25 e6 ?_
    refine r_aload_n (pc := 15) dX10_here_15 rfl ?_
    replace hf := obind hf
    obtain ⟨x7, e8, hf⟩ := hf
    refine q_getI (pc := 16) dX10_here_16 gX10_199 e8 ?_
    replace hf := obind hf
    obtain ⟨x9, e10, hf⟩ := hf
    refine q_iald (pc := 19) dX10_here_19 e10 ?_
    refine r_goto (pc := 20) 24 dX10_here_20 (by decide) ?_
    refine r_ireturn (pc := 24) .int dX10_here_24 rfl rfl ?_
    cases hf
    exact hk
def F_X10_begins (S : pS) (a0 : Nat) : Option (pS) := (oF S a0 10).bind fun _ => (oPI S a0 10 21 (0 : Int32)).bind fun S1 => (oGI S1 a0 10 10).bind fun x3 => (oPI S1 a0 10 22 x3).bind fun S5 => (oPI S5 a0 10 10 (0 : Int32)).bind fun S7 => (oPZ S7 a0 10 23 (1 : Int32)).bind fun S9 => some S9
set_option maxRecDepth 100000 in
set_option maxHeartbeats 4000000 in
theorem C_X10_begins {X : pX} {Q : pO → Nat → pF → Prop} (S : pS) (a0 : Nat) (r : pS) (hf : F_X10_begins S a0 = some r) (hk : Q (.inl none) r.1 r.2) : gC X mX10_begins [.ref a0] S.1 S.2 Q 0 0 := by
  refine gC_of (by decide) (Nat.le_of_ble_eq_true rfl) rfl ?_
  change gW _ _ _ [some (.ref a0)] _ _ _ _ _ _
  unfold F_X10_begins at hf
  obtain ⟨_, _, hf⟩ := obind hf
  refine r_aload_n (pc := 0) dX10_begins_0 rfl ?_
  refine r_iconst (pc := 1) (0 : Int32) dX10_begins_1 (by decide) ?_
  replace hf := obind hf
  obtain ⟨S1, e2, hf⟩ := hf
  refine q_putI (pc := 2) dX10_begins_2 pX10_199 rfl e2 ?_
  refine r_aload_n (pc := 5) dX10_begins_5 rfl ?_
  refine r_aload_n (pc := 6) dX10_begins_6 rfl ?_
  replace hf := obind hf
  obtain ⟨x3, e4, hf⟩ := hf
  refine q_getI (pc := 7) dX10_begins_7 gX10_196 e4 ?_
  replace hf := obind hf
  obtain ⟨S5, e6, hf⟩ := hf
  refine q_putI (pc := 10) dX10_begins_10 pX10_202 rfl e6 ?_
  refine r_aload_n (pc := 13) dX10_begins_13 rfl ?_
  refine r_iconst (pc := 14) (0 : Int32) dX10_begins_14 (by decide) ?_
  replace hf := obind hf
  obtain ⟨S7, e8, hf⟩ := hf
  refine q_putI (pc := 15) dX10_begins_15 pX10_196 rfl e8 ?_
  refine r_aload_n (pc := 18) dX10_begins_18 rfl ?_
  refine r_iconst (pc := 19) (1 : Int32) dX10_begins_19 (by decide) ?_
  replace hf := obind hf
  obtain ⟨S9, e10, hf⟩ := hf
  refine q_putZ (pc := 20) dX10_begins_20 pX10_205 rfl e10 ?_
  refine r_return (pc := 23) dX10_begins_23 rfl ?_
  cases hf
  exact hk
def F_X10_skips_35 (S : pS) (l2 : Int32) (t0 : Nat) (t1 : Int32) (t2 : Int32) : Option (Int32 × pS) := (oPI S t0 10 21 (t1 + t2)).bind fun S5 => (oZ l2).bind fun x7 => some (x7, S5)
set_option maxRecDepth 100000 in
set_option maxHeartbeats 4000000 in
theorem W_X10_skips_35 {X : pX} {Q : pO → Nat → pF → Prop} (S : pS) (l2 : Int32) (t0 : Nat) (t1 : Int32) (t2 : Int32) (r : Int32 × pS) (hf : F_X10_skips_35 S l2 t0 t1 t2 = some r) (hk : Q (.inl (some (.int r.1))) r.2.1 r.2.2) : gW X mX10_skips 35 [none, none, some (.int l2)] [.int t2, .int t1, .ref t0] S.1 S.2 Q 0 0 := by
  unfold F_X10_skips_35 at hf
  refine r_iadd (pc := 35) dX10_skips_35 ?_
  replace hf := obind hf
  obtain ⟨S5, e6, hf⟩ := hf
  refine q_putI (pc := 36) dX10_skips_36 pX10_199 rfl e6 ?_
  refine r_iload_n (pc := 39) dX10_skips_39 rfl ?_
  replace hf := obind hf
  obtain ⟨x7, e8, hf⟩ := hf
  obtain ⟨e8a, e8b⟩ := oZ_some e8
  rw [e8a] at hf
  refine r_ireturn (pc := 40) .boolean dX10_skips_40 rfl e8b ?_
  cases hf
  exact hk
def F_X10_skips_20 (S : pS) (l0 : Nat) (t0 : Int32) : Option (Int32 × pS) := (oGI S l0 10 21).bind fun x3 => if t0 = 0 then (F_X10_skips_35 S t0 l0 x3 (0 : Int32)) else (F_X10_skips_35 S t0 l0 x3 (1 : Int32))
set_option maxRecDepth 100000 in
set_option maxHeartbeats 4000000 in
theorem W_X10_skips_20 {X : pX} {Q : pO → Nat → pF → Prop} (S : pS) (l0 : Nat) (t0 : Int32) (r : Int32 × pS) (hf : F_X10_skips_20 S l0 t0 = some r) (hk : Q (.inl (some (.int r.1))) r.2.1 r.2.2) : gW X mX10_skips 20 [some (.ref l0), none, none] [.int t0] S.1 S.2 Q 0 0 := by
  unfold F_X10_skips_20 at hf
  refine r_istore_n (pc := 20) dX10_skips_20 (by decide) ?_
  change gW _ _ _ [some (.ref l0), none, some (.int t0)] _ _ _ _ _ _
  refine r_aload_n (pc := 21) dX10_skips_21 rfl ?_
  refine r_dup (pc := 22) dX10_skips_22 rfl ?_
  replace hf := obind hf
  obtain ⟨x3, e4, hf⟩ := hf
  refine q_getI (pc := 23) dX10_skips_23 gX10_199 e4 ?_
  refine r_iload_n (pc := 26) dX10_skips_26 rfl ?_
  refine r_if_eq (pc := 27) 34 dX10_skips_27 (by decide) (fun hc => ?_) (fun hc => ?_)
  · rw [if_pos hc] at hf
    refine r_iconst (pc := 34) (0 : Int32) dX10_skips_34 (by decide) ?_
    refine gW.mono (mc := 0) (ms := 0) ?_ (fun _ _ _ q => q) (by decide) (by decide)
    exact gW.weak (by simp [gle]) (W_X10_skips_35 S t0 l0 x3 (0 : Int32) r hf hk)
  · rw [if_neg hc] at hf
    refine r_iconst (pc := 30) (1 : Int32) dX10_skips_30 (by decide) ?_
    refine r_goto (pc := 31) 35 dX10_skips_31 (by decide) ?_
    refine gW.mono (mc := 0) (ms := 0) ?_ (fun _ _ _ q => q) (by decide) (by decide)
    exact gW.weak (by simp [gle]) (W_X10_skips_35 S t0 l0 x3 (1 : Int32) r hf hk)
def F_X10_skips_19 (S : pS) (l0 : Nat) : Option (Int32 × pS) := F_X10_skips_20 S l0 (0 : Int32)
set_option maxRecDepth 100000 in
set_option maxHeartbeats 4000000 in
theorem W_X10_skips_19 {X : pX} {Q : pO → Nat → pF → Prop} (S : pS) (l0 : Nat) (r : Int32 × pS) (hf : F_X10_skips_19 S l0 = some r) (hk : Q (.inl (some (.int r.1))) r.2.1 r.2.2) : gW X mX10_skips 19 [some (.ref l0), none, none] [] S.1 S.2 Q 0 0 := by
  unfold F_X10_skips_19 at hf
  refine r_iconst (pc := 19) (0 : Int32) dX10_skips_19 (by decide) ?_
  refine gW.mono (mc := 0) (ms := 0) ?_ (fun _ _ _ q => q) (by decide) (by decide)
  exact gW.weak (by simp [gle]) (W_X10_skips_20 S l0 (0 : Int32) r hf hk)
def F_X10_skips (S : pS) (a0 : Nat) (a1 : Int32) : Option (Int32 × pS) := (oF S a0 10).bind fun _ => (oGI S a0 10 23).bind fun x1 => if x1 = 0 then (F_X10_skips_19 S a0) else ((F_X10_here S a0).bind fun q9 => if ¬ q9 = a1 then (F_X10_skips_19 S a0) else (F_X10_skips_20 S a0 (1 : Int32)))
set_option maxRecDepth 100000 in
set_option maxHeartbeats 4000000 in
theorem C_X10_skips {X : pX} {Q : pO → Nat → pF → Prop} (S : pS) (a0 : Nat) (a1 : Int32) (r : Int32 × pS) (hf : F_X10_skips S a0 a1 = some r) (hk : Q (.inl (some (.int r.1))) r.2.1 r.2.2) : gC X mX10_skips [.ref a0, .int a1] S.1 S.2 Q 0 0 := by
  refine gC_of (by decide) (Nat.le_of_ble_eq_true rfl) rfl ?_
  change gW _ _ _ [some (.ref a0), some (.int a1), none] _ _ _ _ _ _
  unfold F_X10_skips at hf
  obtain ⟨_, _, hf⟩ := obind hf
  refine r_aload_n (pc := 0) dX10_skips_0 rfl ?_
  replace hf := obind hf
  obtain ⟨x1, e2, hf⟩ := hf
  refine q_getI (pc := 1) dX10_skips_1 gX10_205 e2 ?_
  refine r_if_eq (pc := 4) 19 dX10_skips_4 (by decide) (fun hc => ?_) (fun hc => ?_)
  · rw [if_pos hc] at hf
    refine gW.mono (mc := 0) (ms := 0) ?_ (fun _ _ _ q => q) (by decide) (by decide)
    exact gW.weak (by simp [gle]) (W_X10_skips_19 S a0 r hf hk)
  · rw [if_neg hc] at hf
    refine r_aload_n (pc := 7) dX10_skips_7 rfl ?_
    replace hf := obind hf
    obtain ⟨q9, e10, hf⟩ := hf
    refine q_callV (pc := 8) (v := some (.int q9)) (S' := S) mX10_here 10 [] dX10_skips_8 kX10_209 fX10_here iX10_here ⟨by decide, by decide⟩ rfl rfl rfl (Nat.le_of_ble_eq_true rfl) (og e10) (mc1 := 0) (ms1 := 0) (mc2 := 0) (ms2 := 0) (by decide) (by decide) (C_X10_here S a0 q9 e10 (qR_mk _ _)) ?_
    change gW _ _ _ _ (.int q9 :: _) _ _ _ _ _
    refine r_iload_n (pc := 11) dX10_skips_11 rfl ?_
    refine r_icmp_ne (pc := 12) 19 dX10_skips_12 (by decide) (fun hc => ?_) (fun hc => ?_)
    · rw [if_pos hc] at hf
      refine gW.mono (mc := 0) (ms := 0) ?_ (fun _ _ _ q => q) (by decide) (by decide)
      exact gW.weak (by simp [gle]) (W_X10_skips_19 S a0 r hf hk)
    · rw [if_neg hc] at hf
      refine r_iconst (pc := 15) (1 : Int32) dX10_skips_15 (by decide) ?_
      refine r_goto (pc := 16) 20 dX10_skips_16 (by decide) ?_
      refine gW.mono (mc := 0) (ms := 0) ?_ (fun _ _ _ q => q) (by decide) (by decide)
      exact gW.weak (by simp [gle]) (W_X10_skips_20 S a0 (1 : Int32) r hf hk)
abbrev L_X10_letters_5 (l0 : Nat) (l1 : Int32) : pS → List (Option Value) := fun a => [some (.ref l0), some (.int l1)]
abbrev s_X10_letters_5 (l0 : Nat) (l1 : Int32) : pS → pS := fun a => a
abbrev K_X10_letters_5 (X : pX) (Q : pO → Nat → pF → Prop) (mc ms : Nat) (l0 : Nat) (l1 : Int32) : pS → Prop := (fun b => gW X mX10_letters 70 [some (.ref l0), some (.int l1)] [] b.1 b.2 Q mc ms)
def F_X10_letters_63 (l0 : Nat) (l1 : Int32) (S : pS) (t0 : Nat) (t1 : Int32) (t2 : Int32) : Option ((pS) ⊕ (pS)) := (oPI S t0 10 21 (t1 + t2)).bind fun S17 => some (.inl S17)
set_option maxRecDepth 100000 in
set_option maxHeartbeats 4000000 in
theorem W_X10_letters_63 {X : pX} {Q : pO → Nat → pF → Prop} {mc ms : Nat} (l0 : Nat) (l1 : Int32) (S : pS) (t0 : Nat) (t1 : Int32) (t2 : Int32) (r : (pS) ⊕ (pS)) (hf : F_X10_letters_63 l0 l1 S t0 t1 t2 = some r) (hk : Sum.elim (fun a' => gW X mX10_letters 5 (L_X10_letters_5 l0 l1 a') [] (s_X10_letters_5 l0 l1 a').1 (s_X10_letters_5 l0 l1 a').2 Q mc ms) (K_X10_letters_5 X Q mc ms l0 l1) r) : gW X mX10_letters 63 [some (.ref l0), some (.int l1)] [.int t2, .int t1, .ref t0] S.1 S.2 Q mc ms := by
  unfold F_X10_letters_63 at hf
  refine r_iadd (pc := 63) dX10_letters_63 ?_
  replace hf := obind hf
  obtain ⟨S17, e18, hf⟩ := hf
  refine q_putI (pc := 64) dX10_letters_64 pX10_199 rfl e18 ?_
  refine r_goto (pc := 67) 5 dX10_letters_67 (by decide) ?_
  cases hf
  exact gW.weak (by simp [gle]) hk
def F_X10_letters_43 (l0 : Nat) (l1 : Int32) (S : pS) (t0 : Nat) (t1 : Int32) : Option ((pS) ⊕ (pS)) := (oPZ S t0 10 23 t1).bind fun S11 => (oGI S11 l0 10 21).bind fun x13 => (oGI S11 l0 10 23).bind fun x15 => if x15 = 0 then (F_X10_letters_63 l0 l1 S11 l0 x13 (0 : Int32)) else (F_X10_letters_63 l0 l1 S11 l0 x13 (1 : Int32))
set_option maxRecDepth 100000 in
set_option maxHeartbeats 4000000 in
theorem W_X10_letters_43 {X : pX} {Q : pO → Nat → pF → Prop} {mc ms : Nat} (l0 : Nat) (l1 : Int32) (S : pS) (t0 : Nat) (t1 : Int32) (r : (pS) ⊕ (pS)) (hf : F_X10_letters_43 l0 l1 S t0 t1 = some r) (hk : Sum.elim (fun a' => gW X mX10_letters 5 (L_X10_letters_5 l0 l1 a') [] (s_X10_letters_5 l0 l1 a').1 (s_X10_letters_5 l0 l1 a').2 Q mc ms) (K_X10_letters_5 X Q mc ms l0 l1) r) : gW X mX10_letters 43 [some (.ref l0), some (.int l1)] [.int t1, .ref t0] S.1 S.2 Q mc ms := by
  unfold F_X10_letters_43 at hf
  replace hf := obind hf
  obtain ⟨S11, e12, hf⟩ := hf
  refine q_putZ (pc := 43) dX10_letters_43 pX10_205 rfl e12 ?_
  refine r_aload_n (pc := 46) dX10_letters_46 rfl ?_
  refine r_dup (pc := 47) dX10_letters_47 rfl ?_
  replace hf := obind hf
  obtain ⟨x13, e14, hf⟩ := hf
  refine q_getI (pc := 48) dX10_letters_48 gX10_199 e14 ?_
  refine r_aload_n (pc := 51) dX10_letters_51 rfl ?_
  replace hf := obind hf
  obtain ⟨x15, e16, hf⟩ := hf
  refine q_getI (pc := 52) dX10_letters_52 gX10_205 e16 ?_
  refine r_if_eq (pc := 55) 62 dX10_letters_55 (by decide) (fun hc => ?_) (fun hc => ?_)
  · rw [if_pos hc] at hf
    refine r_iconst (pc := 62) (0 : Int32) dX10_letters_62 (by decide) ?_
    exact gW.weak (by simp [gle]) (W_X10_letters_63 l0 l1 S11 l0 x13 (0 : Int32) r hf hk)
  · rw [if_neg hc] at hf
    refine r_iconst (pc := 58) (1 : Int32) dX10_letters_58 (by decide) ?_
    refine r_goto (pc := 59) 63 dX10_letters_59 (by decide) ?_
    exact gW.weak (by simp [gle]) (W_X10_letters_63 l0 l1 S11 l0 x13 (1 : Int32) r hf hk)
def F_X10_letters_5 (l0 : Nat) (l1 : Int32) : pS → Option ((pS) ⊕ (pS)) := fun a => (oGI a l0 10 23).bind fun x3 => if x3 = 0 then (some (.inr a)) else ((F_X10_here a l0).bind fun q5 => (F_X10_in a q5 (97 : Int32) (122 : Int32)).bind fun q7 => if q7 = 0 then (some (.inr a)) else ((oGI a l0 10 21).bind fun x9 => if (10 : Int32) ≤ (x9 - l1) then (F_X10_letters_43 l0 l1 a l0 (0 : Int32)) else (F_X10_letters_43 l0 l1 a l0 (1 : Int32))))
set_option maxRecDepth 100000 in
set_option maxHeartbeats 4000000 in
theorem W_X10_letters_5 {X : pX} {Q : pO → Nat → pF → Prop} {mc ms : Nat} (l0 : Nat) (l1 : Int32) : ∀ (a : pS) (r : (pS) ⊕ (pS)), F_X10_letters_5 l0 l1 a = some r → Sum.elim (fun a' => gW X mX10_letters 5 (L_X10_letters_5 l0 l1 a') [] (s_X10_letters_5 l0 l1 a').1 (s_X10_letters_5 l0 l1 a').2 Q mc ms) (K_X10_letters_5 X Q mc ms l0 l1) r → gW X mX10_letters 5 (L_X10_letters_5 l0 l1 a) [] (s_X10_letters_5 l0 l1 a).1 (s_X10_letters_5 l0 l1 a).2 Q mc ms := by
  intro S r hf hk
  unfold F_X10_letters_5 at hf
  try dsimp only at hf
  change gW _ _ _ [some (.ref l0), some (.int l1)] _ S.1 S.2 _ _ _
  refine r_aload_n (pc := 5) dX10_letters_5 rfl ?_
  replace hf := obind hf
  obtain ⟨x3, e4, hf⟩ := hf
  refine q_getI (pc := 6) dX10_letters_6 gX10_205 e4 ?_
  refine r_if_eq (pc := 9) 70 dX10_letters_9 (by decide) (fun hc => ?_) (fun hc => ?_)
  · rw [if_pos hc] at hf
    cases hf
    exact gW.weak (by simp [gle]) hk
  · rw [if_neg hc] at hf
    refine r_aload_n (pc := 12) dX10_letters_12 rfl ?_
    replace hf := obind hf
    obtain ⟨q5, e6, hf⟩ := hf
    refine q_callV (pc := 13) (v := some (.int q5)) (S' := S) mX10_here 10 [] dX10_letters_13 kX10_209 fX10_here iX10_here ⟨by decide, by decide⟩ rfl rfl rfl (Nat.le_of_ble_eq_true rfl) (og e6) (mc1 := 0) (ms1 := 0) (mc2 := mc) (ms2 := ms) (by omega) (by omega) (C_X10_here S l0 q5 e6 (qR_mk _ _)) ?_
    change gW _ _ _ _ (.int q5 :: _) _ _ _ _ _
    refine r_bipush (pc := 16) (97 : Int32) dX10_letters_16 (by decide) ?_
    refine r_bipush (pc := 18) (122 : Int32) dX10_letters_18 (by decide) ?_
    replace hf := obind hf
    obtain ⟨q7, e8, hf⟩ := hf
    refine q_callS (pc := 20) (v := some (.int q7)) (S' := S) mX10_in [.int q5, .int (97 : Int32), .int (122 : Int32)] dX10_letters_20 kX10_142 fX10_in sX10_in ⟨by decide, by decide⟩ rfl rfl (Nat.le_of_ble_eq_true rfl) (mc1 := 0) (ms1 := 0) (mc2 := mc) (ms2 := ms) (by omega) (by omega) (C_X10_in S q5 (97 : Int32) (122 : Int32) q7 e8 (qR_mk _ _)) ?_
    change gW _ _ _ _ (.int q7 :: _) _ _ _ _ _
    refine r_if_eq (pc := 23) 70 dX10_letters_23 (by decide) (fun hc => ?_) (fun hc => ?_)
    · rw [if_pos hc] at hf
      cases hf
      exact gW.weak (by simp [gle]) hk
    · rw [if_neg hc] at hf
      refine r_aload_n (pc := 26) dX10_letters_26 rfl ?_
      refine r_aload_n (pc := 27) dX10_letters_27 rfl ?_
      replace hf := obind hf
      obtain ⟨x9, e10, hf⟩ := hf
      refine q_getI (pc := 28) dX10_letters_28 gX10_199 e10 ?_
      refine r_iload_n (pc := 31) dX10_letters_31 rfl ?_
      refine r_isub (pc := 32) dX10_letters_32 ?_
      refine r_bipush (pc := 33) (10 : Int32) dX10_letters_33 (by decide) ?_
      refine r_icmp_ge (pc := 35) 42 dX10_letters_35 (by decide) (fun hc => ?_) (fun hc => ?_)
      · rw [if_pos hc] at hf
        refine r_iconst (pc := 42) (0 : Int32) dX10_letters_42 (by decide) ?_
        exact gW.weak (by simp [gle]) (W_X10_letters_43 l0 l1 S l0 (0 : Int32) r hf hk)
      · rw [if_neg hc] at hf
        refine r_iconst (pc := 38) (1 : Int32) dX10_letters_38 (by decide) ?_
        refine r_goto (pc := 39) 43 dX10_letters_39 (by decide) ?_
        exact gW.weak (by simp [gle]) (W_X10_letters_43 l0 l1 S l0 (1 : Int32) r hf hk)
def F_X10_letters_91 (S : pS) (l1 : Int32) (t0 : Nat) (t1 : Int32) : Option (Int32 × pS) := (oPZ S t0 10 23 t1).bind fun S23 => some (l1, S23)
set_option maxRecDepth 100000 in
set_option maxHeartbeats 4000000 in
theorem W_X10_letters_91 {X : pX} {Q : pO → Nat → pF → Prop} (S : pS) (l1 : Int32) (t0 : Nat) (t1 : Int32) (r : Int32 × pS) (hf : F_X10_letters_91 S l1 t0 t1 = some r) (hk : Q (.inl (some (.int r.1))) r.2.1 r.2.2) : gW X mX10_letters 91 [none, some (.int l1)] [.int t1, .ref t0] S.1 S.2 Q 0 0 := by
  unfold F_X10_letters_91 at hf
  replace hf := obind hf
  obtain ⟨S23, e24, hf⟩ := hf
  refine q_putZ (pc := 91) dX10_letters_91 pX10_205 rfl e24 ?_
  refine r_iload_n (pc := 94) dX10_letters_94 rfl ?_
  refine r_ireturn (pc := 95) .int dX10_letters_95 rfl rfl ?_
  cases hf
  exact hk
def F_X10_letters_90 (S : pS) (l1 : Int32) (t0 : Nat) : Option (Int32 × pS) := F_X10_letters_91 S l1 t0 (0 : Int32)
set_option maxRecDepth 100000 in
set_option maxHeartbeats 4000000 in
theorem W_X10_letters_90 {X : pX} {Q : pO → Nat → pF → Prop} (S : pS) (l1 : Int32) (t0 : Nat) (r : Int32 × pS) (hf : F_X10_letters_90 S l1 t0 = some r) (hk : Q (.inl (some (.int r.1))) r.2.1 r.2.2) : gW X mX10_letters 90 [none, some (.int l1)] [.ref t0] S.1 S.2 Q 0 0 := by
  unfold F_X10_letters_90 at hf
  refine r_iconst (pc := 90) (0 : Int32) dX10_letters_90 (by decide) ?_
  refine gW.mono (mc := 0) (ms := 0) ?_ (fun _ _ _ q => q) (by decide) (by decide)
  exact gW.weak (by simp [gle]) (W_X10_letters_91 S l1 t0 (0 : Int32) r hf hk)
def F_X10_letters_70 (S : pS) (l0 : Nat) (l1 : Int32) : Option (Int32 × pS) := (oGI S l0 10 23).bind fun x21 => if x21 = 0 then (F_X10_letters_90 S l1 l0) else ((oGI S l0 10 21).bind fun x25 => if x25 ≤ l1 then (F_X10_letters_90 S l1 l0) else (F_X10_letters_91 S l1 l0 (1 : Int32)))
set_option maxRecDepth 100000 in
set_option maxHeartbeats 4000000 in
theorem W_X10_letters_70 {X : pX} {Q : pO → Nat → pF → Prop} (S : pS) (l0 : Nat) (l1 : Int32) (r : Int32 × pS) (hf : F_X10_letters_70 S l0 l1 = some r) (hk : Q (.inl (some (.int r.1))) r.2.1 r.2.2) : gW X mX10_letters 70 [some (.ref l0), some (.int l1)] [] S.1 S.2 Q 0 0 := by
  unfold F_X10_letters_70 at hf
  refine r_aload_n (pc := 70) dX10_letters_70 rfl ?_
  refine r_aload_n (pc := 71) dX10_letters_71 rfl ?_
  replace hf := obind hf
  obtain ⟨x21, e22, hf⟩ := hf
  refine q_getI (pc := 72) dX10_letters_72 gX10_205 e22 ?_
  refine r_if_eq (pc := 75) 90 dX10_letters_75 (by decide) (fun hc => ?_) (fun hc => ?_)
  · rw [if_pos hc] at hf
    refine gW.mono (mc := 0) (ms := 0) ?_ (fun _ _ _ q => q) (by decide) (by decide)
    exact gW.weak (by simp [gle]) (W_X10_letters_90 S l1 l0 r hf hk)
  · rw [if_neg hc] at hf
    refine r_aload_n (pc := 78) dX10_letters_78 rfl ?_
    replace hf := obind hf
    obtain ⟨x25, e26, hf⟩ := hf
    refine q_getI (pc := 79) dX10_letters_79 gX10_199 e26 ?_
    refine r_iload_n (pc := 82) dX10_letters_82 rfl ?_
    refine r_icmp_le (pc := 83) 90 dX10_letters_83 (by decide) (fun hc => ?_) (fun hc => ?_)
    · rw [if_pos hc] at hf
      refine gW.mono (mc := 0) (ms := 0) ?_ (fun _ _ _ q => q) (by decide) (by decide)
      exact gW.weak (by simp [gle]) (W_X10_letters_90 S l1 l0 r hf hk)
    · rw [if_neg hc] at hf
      refine r_iconst (pc := 86) (1 : Int32) dX10_letters_86 (by decide) ?_
      refine r_goto (pc := 87) 91 dX10_letters_87 (by decide) ?_
      refine gW.mono (mc := 0) (ms := 0) ?_ (fun _ _ _ q => q) (by decide) (by decide)
      exact gW.weak (by simp [gle]) (W_X10_letters_91 S l1 l0 (1 : Int32) r hf hk)
def F_X10_letters (S : pS) (a0 : Nat) : Option (Int32 × pS) := (oF S a0 10).bind fun _ => (oGI S a0 10 21).bind fun x1 => (iter (F_X10_letters_5 a0 x1) fu S).bind fun r19 => F_X10_letters_70 r19 a0 x1
set_option maxRecDepth 100000 in
set_option maxHeartbeats 4000000 in
theorem C_X10_letters {X : pX} {Q : pO → Nat → pF → Prop} (S : pS) (a0 : Nat) (r : Int32 × pS) (hf : F_X10_letters S a0 = some r) (hk : Q (.inl (some (.int r.1))) r.2.1 r.2.2) : gC X mX10_letters [.ref a0] S.1 S.2 Q 0 0 := by
  refine gC_of (by decide) (Nat.le_of_ble_eq_true rfl) rfl ?_
  change gW _ _ _ [some (.ref a0), none] _ _ _ _ _ _
  unfold F_X10_letters at hf
  obtain ⟨_, _, hf⟩ := obind hf
  refine r_aload_n (pc := 0) dX10_letters_0 rfl ?_
  replace hf := obind hf
  obtain ⟨x1, e2, hf⟩ := hf
  refine q_getI (pc := 1) dX10_letters_1 gX10_199 e2 ?_
  refine r_istore_n (pc := 4) dX10_letters_4 (by decide) ?_
  change gW _ _ _ [some (.ref a0), some (.int x1)] _ _ _ _ _ _
  replace hf := obind hf
  obtain ⟨r19, e20, hf⟩ := hf
  refine gW.weak (ls' := [some (.ref a0), some (.int x1)]) (by simp [gle]) ?_
  refine g_iter (L := L_X10_letters_5 a0 x1) (s := s_X10_letters_5 a0 x1) (K := K_X10_letters_5 X Q _ _ a0 x1) (W_X10_letters_5 a0 x1) fu S _ e20 ?_
  show gW _ _ 70 [some (.ref a0), some (.int x1)] [] r19.1 r19.2 _ _ _
  refine gW.mono (mc := 0) (ms := 0) ?_ (fun _ _ _ q => q) (by decide) (by decide)
  exact gW.weak (by simp [gle]) (W_X10_letters_70 r19 a0 x1 r hf hk)
def F_X10_isName_55 (S : pS) (l0 : Nat) (t0 : Nat) (t1 : Int32) : Option (Int32 × pS) := (oPI S t0 10 11 t1).bind fun S13 => (oGI S13 l0 10 23).bind fun x15 => (oZ x15).bind fun x17 => some (x17, S13)
set_option maxRecDepth 100000 in
set_option maxHeartbeats 4000000 in
theorem W_X10_isName_55 {X : pX} {Q : pO → Nat → pF → Prop} (S : pS) (l0 : Nat) (t0 : Nat) (t1 : Int32) (r : Int32 × pS) (hf : F_X10_isName_55 S l0 t0 t1 = some r) (hk : Q (.inl (some (.int r.1))) r.2.1 r.2.2) : gW X mX10_isName 55 [some (.ref l0)] [.int t1, .ref t0] S.1 S.2 Q 0 0 := by
  unfold F_X10_isName_55 at hf
  replace hf := obind hf
  obtain ⟨S13, e14, hf⟩ := hf
  refine q_putI (pc := 55) dX10_isName_55 pX10_28 rfl e14 ?_
  refine r_aload_n (pc := 58) dX10_isName_58 rfl ?_
  replace hf := obind hf
  obtain ⟨x15, e16, hf⟩ := hf
  refine q_getI (pc := 59) dX10_isName_59 gX10_205 e16 ?_
  replace hf := obind hf
  obtain ⟨x17, e18, hf⟩ := hf
  obtain ⟨e18a, e18b⟩ := oZ_some e18
  rw [e18a] at hf
  refine r_ireturn (pc := 62) .boolean dX10_isName_62 rfl e18b ?_
  cases hf
  exact hk
def F_X10_isName_33 (S : pS) (l0 : Nat) (t0 : Nat) (t1 : Int32) : Option (Int32 × pS) := (oPZ S t0 10 23 t1).bind fun S7 => (oGI S7 l0 10 23).bind fun x9 => if x9 = 0 then ((oGI S7 l0 10 21).bind fun x11 => F_X10_isName_55 S7 l0 l0 x11) else ((oGI S7 l0 10 11).bind fun x19 => F_X10_isName_55 S7 l0 l0 x19)
set_option maxRecDepth 100000 in
set_option maxHeartbeats 4000000 in
theorem W_X10_isName_33 {X : pX} {Q : pO → Nat → pF → Prop} (S : pS) (l0 : Nat) (t0 : Nat) (t1 : Int32) (r : Int32 × pS) (hf : F_X10_isName_33 S l0 t0 t1 = some r) (hk : Q (.inl (some (.int r.1))) r.2.1 r.2.2) : gW X mX10_isName 33 [some (.ref l0)] [.int t1, .ref t0] S.1 S.2 Q 0 0 := by
  unfold F_X10_isName_33 at hf
  replace hf := obind hf
  obtain ⟨S7, e8, hf⟩ := hf
  refine q_putZ (pc := 33) dX10_isName_33 pX10_205 rfl e8 ?_
  refine r_aload_n (pc := 36) dX10_isName_36 rfl ?_
  refine r_aload_n (pc := 37) dX10_isName_37 rfl ?_
  replace hf := obind hf
  obtain ⟨x9, e10, hf⟩ := hf
  refine q_getI (pc := 38) dX10_isName_38 gX10_205 e10 ?_
  refine r_if_eq (pc := 41) 51 dX10_isName_41 (by decide) (fun hc => ?_) (fun hc => ?_)
  · rw [if_pos hc] at hf
    refine r_aload_n (pc := 51) dX10_isName_51 rfl ?_
    replace hf := obind hf
    obtain ⟨x11, e12, hf⟩ := hf
    refine q_getI (pc := 52) dX10_isName_52 gX10_199 e12 ?_
    refine gW.mono (mc := 0) (ms := 0) ?_ (fun _ _ _ q => q) (by decide) (by decide)
    exact gW.weak (by simp [gle]) (W_X10_isName_55 S7 l0 l0 x11 r hf hk)
  · rw [if_neg hc] at hf
    refine r_aload_n (pc := 44) dX10_isName_44 rfl ?_
    replace hf := obind hf
    obtain ⟨x19, e20, hf⟩ := hf
    refine q_getI (pc := 45) dX10_isName_45 gX10_28 e20 ?_
    refine r_goto (pc := 48) 55 dX10_isName_48 (by decide) ?_
    refine gW.mono (mc := 0) (ms := 0) ?_ (fun _ _ _ q => q) (by decide) (by decide)
    exact gW.weak (by simp [gle]) (W_X10_isName_55 S7 l0 l0 x19 r hf hk)
def F_X10_isName_32 (S : pS) (l0 : Nat) (t0 : Nat) : Option (Int32 × pS) := F_X10_isName_33 S l0 t0 (0 : Int32)
set_option maxRecDepth 100000 in
set_option maxHeartbeats 4000000 in
theorem W_X10_isName_32 {X : pX} {Q : pO → Nat → pF → Prop} (S : pS) (l0 : Nat) (t0 : Nat) (r : Int32 × pS) (hf : F_X10_isName_32 S l0 t0 = some r) (hk : Q (.inl (some (.int r.1))) r.2.1 r.2.2) : gW X mX10_isName 32 [some (.ref l0)] [.ref t0] S.1 S.2 Q 0 0 := by
  unfold F_X10_isName_32 at hf
  refine r_iconst (pc := 32) (0 : Int32) dX10_isName_32 (by decide) ?_
  refine gW.mono (mc := 0) (ms := 0) ?_ (fun _ _ _ q => q) (by decide) (by decide)
  exact gW.weak (by simp [gle]) (W_X10_isName_33 S l0 t0 (0 : Int32) r hf hk)
def F_X10_isName (S : pS) (a0 : Nat) : Option (Int32 × pS) := (oF S a0 10).bind fun _ => (F_X10_begins S a0).bind fun q1 => (F_X10_letters q1 a0).bind fun q3 => (oGI q3.2 a0 10 23).bind fun x5 => if x5 = 0 then (F_X10_isName_32 q3.2 a0 a0) else ((oGI q3.2 a0 10 21).bind fun x21 => (oGI q3.2 a0 10 22).bind fun x23 => if ¬ x21 = x23 then (F_X10_isName_32 q3.2 a0 a0) else (F_X10_isName_33 q3.2 a0 a0 (1 : Int32)))
set_option maxRecDepth 100000 in
set_option maxHeartbeats 4000000 in
theorem C_X10_isName {X : pX} {Q : pO → Nat → pF → Prop} (S : pS) (a0 : Nat) (r : Int32 × pS) (hf : F_X10_isName S a0 = some r) (hk : Q (.inl (some (.int r.1))) r.2.1 r.2.2) : gC X mX10_isName [.ref a0] S.1 S.2 Q 0 0 := by
  refine gC_of (by decide) (Nat.le_of_ble_eq_true rfl) rfl ?_
  change gW _ _ _ [some (.ref a0)] _ _ _ _ _ _
  unfold F_X10_isName at hf
  obtain ⟨_, _, hf⟩ := obind hf
  refine r_aload_n (pc := 0) dX10_isName_0 rfl ?_
  replace hf := obind hf
  obtain ⟨q1, e2, hf⟩ := hf
  refine q_callV (pc := 1) (v := none) (S' := q1) mX10_begins 10 [] dX10_isName_1 kX10_212 fX10_begins iX10_begins ⟨by decide, by decide⟩ rfl rfl rfl (Nat.le_of_ble_eq_true rfl) (og e2) (mc1 := 0) (ms1 := 0) (mc2 := 0) (ms2 := 0) (by decide) (by decide) (C_X10_begins S a0 q1 e2 (qR_mk _ _)) ?_
  refine r_aload_n (pc := 4) dX10_isName_4 rfl ?_
  replace hf := obind hf
  obtain ⟨q3, e4, hf⟩ := hf
  refine q_callV (pc := 5) (v := some (.int q3.1)) (S' := q3.2) mX10_letters 10 [] dX10_isName_5 kX10_215 fX10_letters iX10_letters ⟨by decide, by decide⟩ rfl rfl rfl (Nat.le_of_ble_eq_true rfl) (og e4) (mc1 := 0) (ms1 := 0) (mc2 := 0) (ms2 := 0) (by decide) (by decide) (C_X10_letters q1 a0 q3 e4 (qR_mk _ _)) ?_
  change gW _ _ _ _ (.int q3.1 :: _) _ _ _ _ _
  refine r_pop (pc := 8) dX10_isName_8 rfl ?_
  refine r_aload_n (pc := 9) dX10_isName_9 rfl ?_
  refine r_aload_n (pc := 10) dX10_isName_10 rfl ?_
  replace hf := obind hf
  obtain ⟨x5, e6, hf⟩ := hf
  refine q_getI (pc := 11) dX10_isName_11 gX10_205 e6 ?_
  refine r_if_eq (pc := 14) 32 dX10_isName_14 (by decide) (fun hc => ?_) (fun hc => ?_)
  · rw [if_pos hc] at hf
    refine gW.mono (mc := 0) (ms := 0) ?_ (fun _ _ _ q => q) (by decide) (by decide)
    exact gW.weak (by simp [gle]) (W_X10_isName_32 q3.2 a0 a0 r hf hk)
  · rw [if_neg hc] at hf
    refine r_aload_n (pc := 17) dX10_isName_17 rfl ?_
    replace hf := obind hf
    obtain ⟨x21, e22, hf⟩ := hf
    refine q_getI (pc := 18) dX10_isName_18 gX10_199 e22 ?_
    refine r_aload_n (pc := 21) dX10_isName_21 rfl ?_
    replace hf := obind hf
    obtain ⟨x23, e24, hf⟩ := hf
    refine q_getI (pc := 22) dX10_isName_22 gX10_202 e24 ?_
    refine r_icmp_ne (pc := 25) 32 dX10_isName_25 (by decide) (fun hc => ?_) (fun hc => ?_)
    · rw [if_pos hc] at hf
      refine gW.mono (mc := 0) (ms := 0) ?_ (fun _ _ _ q => q) (by decide) (by decide)
      exact gW.weak (by simp [gle]) (W_X10_isName_32 q3.2 a0 a0 r hf hk)
    · rw [if_neg hc] at hf
      refine r_iconst (pc := 28) (1 : Int32) dX10_isName_28 (by decide) ?_
      refine r_goto (pc := 29) 33 dX10_isName_29 (by decide) ?_
      refine gW.mono (mc := 0) (ms := 0) ?_ (fun _ _ _ q => q) (by decide) (by decide)
      exact gW.weak (by simp [gle]) (W_X10_isName_33 q3.2 a0 a0 (1 : Int32) r hf hk)
abbrev L_X10_names_16 (l0 : Nat) (l1 : Int32) (l2 : Int32) (l3 : Int32) : Int32 × pS → List (Option Value) := fun a => [some (.ref l0), some (.int l1), some (.int l2), some (.int l3), some (.int a.1)]
abbrev s_X10_names_16 (l0 : Nat) (l1 : Int32) (l2 : Int32) (l3 : Int32) : Int32 × pS → pS := fun a => a.2
abbrev K_X10_names_16 (X : pX) (Q : pO → Nat → pF → Prop) (mc ms : Nat) (l0 : Nat) (l1 : Int32) (l2 : Int32) (l3 : Int32) : pS → Prop := (fun b => gW X mX10_names 53 [some (.ref l0), some (.int l1), some (.int l2), some (.int l3), none] [] b.1 b.2 Q mc ms)
def F_X10_names_16 (l0 : Nat) (l1 : Int32) (l2 : Int32) (l3 : Int32) : Int32 × pS → Option ((Int32 × pS) ⊕ (pS)) := fun a => if l3 ≤ a.1 then (some (.inr a.2)) else ((oGA a.2 l0 10 1).bind fun x5 => (oGA a.2 l0 10 9).bind fun x7 => (oAI a.2 x7 .int a.1).bind fun x9 => (oSI a.2 x5 .int ((((306 : Int32) + ((10 : Int32) * l1)) + a.1) - l2) x9).bind fun S11 => some (.inl (a.1 + (1 : Int32), S11)))
set_option maxRecDepth 100000 in
set_option maxHeartbeats 4000000 in
theorem W_X10_names_16 {X : pX} {Q : pO → Nat → pF → Prop} {mc ms : Nat} (l0 : Nat) (l1 : Int32) (l2 : Int32) (l3 : Int32) : ∀ (a : Int32 × pS) (r : (Int32 × pS) ⊕ (pS)), F_X10_names_16 l0 l1 l2 l3 a = some r → Sum.elim (fun a' => gW X mX10_names 16 (L_X10_names_16 l0 l1 l2 l3 a') [] (s_X10_names_16 l0 l1 l2 l3 a').1 (s_X10_names_16 l0 l1 l2 l3 a').2 Q mc ms) (K_X10_names_16 X Q mc ms l0 l1 l2 l3) r → gW X mX10_names 16 (L_X10_names_16 l0 l1 l2 l3 a) [] (s_X10_names_16 l0 l1 l2 l3 a).1 (s_X10_names_16 l0 l1 l2 l3 a).2 Q mc ms := by
  intro a r hf hk
  obtain ⟨l4, S⟩ := a
  unfold F_X10_names_16 at hf
  try dsimp only at hf
  change gW _ _ _ [some (.ref l0), some (.int l1), some (.int l2), some (.int l3), some (.int l4)] _ S.1 S.2 _ _ _
  refine r_iload (pc := 16) dX10_names_16 rfl ?_
  refine r_iload_n (pc := 18) dX10_names_18 rfl ?_
  refine r_icmp_ge (pc := 19) 53 dX10_names_19 (by decide) (fun hc => ?_) (fun hc => ?_)
  · rw [if_pos hc] at hf
    cases hf
    exact gW.weak (by simp [gle]) hk
  · rw [if_neg hc] at hf
    refine r_aload_n (pc := 22) dX10_names_22 rfl ?_
    replace hf := obind hf
    obtain ⟨x5, e6, hf⟩ := hf
    refine q_getA (pc := 23) dX10_names_23 gX10_7 e6 ?_
    refine r_sipush (pc := 26) (306 : Int32) dX10_names_26 (by decide) ?_
    refine r_bipush (pc := 29) (10 : Int32) dX10_names_29 (by decide) ?_
    refine r_iload_n (pc := 31) dX10_names_31 rfl ?_
    refine r_imul (pc := 32) dX10_names_32 ?_
    refine r_iadd (pc := 33) dX10_names_33 ?_
    refine r_iload (pc := 34) dX10_names_34 rfl ?_
    refine r_iadd (pc := 36) dX10_names_36 ?_
    refine r_iload_n (pc := 37) dX10_names_37 rfl ?_
    refine r_isub (pc := 38) dX10_names_38 ?_
    refine r_aload_n (pc := 39) dX10_names_39 rfl ?_
    replace hf := obind hf
    obtain ⟨x7, e8, hf⟩ := hf
    refine q_getA (pc := 40) dX10_names_40 gX10_25 e8 ?_
    refine r_iload (pc := 43) dX10_names_43 rfl ?_
    replace hf := obind hf
    obtain ⟨x9, e10, hf⟩ := hf
    refine q_iald (pc := 45) dX10_names_45 e10 ?_
    replace hf := obind hf
    obtain ⟨S11, e12, hf⟩ := hf
    refine q_iast (pc := 46) dX10_names_46 e12 ?_
    refine r_iinc (pc := 47) dX10_names_47 rfl (by decide) ?_
    change gW _ _ _ [some (.ref l0), some (.int l1), some (.int l2), some (.int l3), some (.int (l4 + (1 : Int32)))] _ _ _ _ _ _
    refine r_goto (pc := 50) 16 dX10_names_50 (by decide) ?_
    cases hf
    exact gW.weak (by simp [gle]) hk
def F_X10_names (S : pS) (a0 : Nat) (a1 : Int32) (a2 : Int32) (a3 : Int32) : Option (pS) := (oF S a0 10).bind fun _ => (oGA S a0 10 1).bind fun x1 => (oSI S x1 .int ((245 : Int32) + a1) (a3 - a2)).bind fun S3 => (iter (F_X10_names_16 a0 a1 a2 a3) fu (a2, S3)).bind fun r13 => some r13
set_option maxRecDepth 100000 in
set_option maxHeartbeats 4000000 in
theorem C_X10_names {X : pX} {Q : pO → Nat → pF → Prop} (S : pS) (a0 : Nat) (a1 : Int32) (a2 : Int32) (a3 : Int32) (r : pS) (hf : F_X10_names S a0 a1 a2 a3 = some r) (hk : Q (.inl none) r.1 r.2) : gC X mX10_names [.ref a0, .int a1, .int a2, .int a3] S.1 S.2 Q 0 0 := by
  refine gC_of (by decide) (Nat.le_of_ble_eq_true rfl) rfl ?_
  change gW _ _ _ [some (.ref a0), some (.int a1), some (.int a2), some (.int a3), none] _ _ _ _ _ _
  unfold F_X10_names at hf
  obtain ⟨_, _, hf⟩ := obind hf
  refine r_aload_n (pc := 0) dX10_names_0 rfl ?_
  replace hf := obind hf
  obtain ⟨x1, e2, hf⟩ := hf
  refine q_getA (pc := 1) dX10_names_1 gX10_7 e2 ?_
  refine r_sipush (pc := 4) (245 : Int32) dX10_names_4 (by decide) ?_
  refine r_iload_n (pc := 7) dX10_names_7 rfl ?_
  refine r_iadd (pc := 8) dX10_names_8 ?_
  refine r_iload_n (pc := 9) dX10_names_9 rfl ?_
  refine r_iload_n (pc := 10) dX10_names_10 rfl ?_
  refine r_isub (pc := 11) dX10_names_11 ?_
  replace hf := obind hf
  obtain ⟨S3, e4, hf⟩ := hf
  refine q_iast (pc := 12) dX10_names_12 e4 ?_
  refine r_iload_n (pc := 13) dX10_names_13 rfl ?_
  refine r_istore (pc := 14) dX10_names_14 (by decide) ?_
  change gW _ _ _ [some (.ref a0), some (.int a1), some (.int a2), some (.int a3), some (.int a2)] _ _ _ _ _ _
  replace hf := obind hf
  obtain ⟨r13, e14, hf⟩ := hf
  refine gW.weak (ls' := [some (.ref a0), some (.int a1), some (.int a2), some (.int a3), some (.int a2)]) (by simp [gle]) ?_
  refine g_iter (L := L_X10_names_16 a0 a1 a2 a3) (s := s_X10_names_16 a0 a1 a2 a3) (K := K_X10_names_16 X Q _ _ a0 a1 a2 a3) (W_X10_names_16 a0 a1 a2 a3) fu (a2, S3) _ e14 ?_
  show gW _ _ 53 [some (.ref a0), some (.int a1), some (.int a2), some (.int a3), none] [] r13.1 r13.2 _ _ _
  refine r_return (pc := 53) dX10_names_53 rfl ?_
  cases hf
  exact hk
def F_X10_makes (S : pS) (a0 : Nat) : Option (Int32 × pS) := (oF S a0 10).bind fun _ => (oGA S a0 10 1).bind fun x1 => (oAI S x1 .int (0 : Int32)).bind fun x3 => (oSI S x1 .int (0 : Int32) (x3 + (1 : Int32))).bind fun S5 => (oGA S5 a0 10 1).bind fun x7 => (oAI S5 x7 .int (0 : Int32)).bind fun x9 => (oGA S5 a0 10 1).bind fun x11 => (oSI S5 x11 .int ((1 : Int32) + x9) (1 : Int32)).bind fun S13 => (oGA S13 a0 10 1).bind fun x15 => (oSI S13 x15 .int ((62 : Int32) + x9) (0 : Int32)).bind fun S17 => (oGA S17 a0 10 1).bind fun x19 => (oSI S17 x19 .int ((123 : Int32) + x9) (-1 : Int32)).bind fun S21 => (oGA S21 a0 10 1).bind fun x23 => (oSI S21 x23 .int ((184 : Int32) + x9) (0 : Int32)).bind fun S25 => (oGA S25 a0 10 1).bind fun x27 => (oSI S25 x27 .int ((916 : Int32) + x9) (0 : Int32)).bind fun S29 => some (x9, S29)
set_option maxRecDepth 100000 in
set_option maxHeartbeats 4000000 in
theorem C_X10_makes {X : pX} {Q : pO → Nat → pF → Prop} (S : pS) (a0 : Nat) (r : Int32 × pS) (hf : F_X10_makes S a0 = some r) (hk : Q (.inl (some (.int r.1))) r.2.1 r.2.2) : gC X mX10_makes [.ref a0] S.1 S.2 Q 0 0 := by
  refine gC_of (by decide) (Nat.le_of_ble_eq_true rfl) rfl ?_
  change gW _ _ _ [some (.ref a0), none] _ _ _ _ _ _
  unfold F_X10_makes at hf
  obtain ⟨_, _, hf⟩ := obind hf
  refine r_aload_n (pc := 0) dX10_makes_0 rfl ?_
  replace hf := obind hf
  obtain ⟨x1, e2, hf⟩ := hf
  refine q_getA (pc := 1) dX10_makes_1 gX10_7 e2 ?_
  refine r_iconst (pc := 4) (0 : Int32) dX10_makes_4 (by decide) ?_
  refine r_dup2 (pc := 5) dX10_makes_5 rfl rfl ?_
  replace hf := obind hf
  obtain ⟨x3, e4, hf⟩ := hf
  refine q_iald (pc := 6) dX10_makes_6 e4 ?_
  refine r_iconst (pc := 7) (1 : Int32) dX10_makes_7 (by decide) ?_
  refine r_iadd (pc := 8) dX10_makes_8 ?_
  replace hf := obind hf
  obtain ⟨S5, e6, hf⟩ := hf
  refine q_iast (pc := 9) dX10_makes_9 e6 ?_
  refine r_aload_n (pc := 10) dX10_makes_10 rfl ?_
  replace hf := obind hf
  obtain ⟨x7, e8, hf⟩ := hf
  refine q_getA (pc := 11) dX10_makes_11 gX10_7 e8 ?_
  refine r_iconst (pc := 14) (0 : Int32) dX10_makes_14 (by decide) ?_
  replace hf := obind hf
  obtain ⟨x9, e10, hf⟩ := hf
  refine q_iald (pc := 15) dX10_makes_15 e10 ?_
  refine r_istore_n (pc := 16) dX10_makes_16 (by decide) ?_
  change gW _ _ _ [some (.ref a0), some (.int x9)] _ _ _ _ _ _
  refine r_aload_n (pc := 17) dX10_makes_17 rfl ?_
  replace hf := obind hf
  obtain ⟨x11, e12, hf⟩ := hf
  refine q_getA (pc := 18) dX10_makes_18 gX10_7 e12 ?_
  refine r_iconst (pc := 21) (1 : Int32) dX10_makes_21 (by decide) ?_
  refine r_iload_n (pc := 22) dX10_makes_22 rfl ?_
  refine r_iadd (pc := 23) dX10_makes_23 ?_
  refine r_iconst (pc := 24) (1 : Int32) dX10_makes_24 (by decide) ?_
  replace hf := obind hf
  obtain ⟨S13, e14, hf⟩ := hf
  refine q_iast (pc := 25) dX10_makes_25 e14 ?_
  refine r_aload_n (pc := 26) dX10_makes_26 rfl ?_
  replace hf := obind hf
  obtain ⟨x15, e16, hf⟩ := hf
  refine q_getA (pc := 27) dX10_makes_27 gX10_7 e16 ?_
  refine r_bipush (pc := 30) (62 : Int32) dX10_makes_30 (by decide) ?_
  refine r_iload_n (pc := 32) dX10_makes_32 rfl ?_
  refine r_iadd (pc := 33) dX10_makes_33 ?_
  refine r_iconst (pc := 34) (0 : Int32) dX10_makes_34 (by decide) ?_
  replace hf := obind hf
  obtain ⟨S17, e18, hf⟩ := hf
  refine q_iast (pc := 35) dX10_makes_35 e18 ?_
  refine r_aload_n (pc := 36) dX10_makes_36 rfl ?_
  replace hf := obind hf
  obtain ⟨x19, e20, hf⟩ := hf
  refine q_getA (pc := 37) dX10_makes_37 gX10_7 e20 ?_
  refine r_bipush (pc := 40) (123 : Int32) dX10_makes_40 (by decide) ?_
  refine r_iload_n (pc := 42) dX10_makes_42 rfl ?_
  refine r_iadd (pc := 43) dX10_makes_43 ?_
  refine r_iconst (pc := 44) (-1 : Int32) dX10_makes_44 (by decide) ?_
  replace hf := obind hf
  obtain ⟨S21, e22, hf⟩ := hf
  refine q_iast (pc := 45) dX10_makes_45 e22 ?_
  refine r_aload_n (pc := 46) dX10_makes_46 rfl ?_
  replace hf := obind hf
  obtain ⟨x23, e24, hf⟩ := hf
  refine q_getA (pc := 47) dX10_makes_47 gX10_7 e24 ?_
  refine r_sipush (pc := 50) (184 : Int32) dX10_makes_50 (by decide) ?_
  refine r_iload_n (pc := 53) dX10_makes_53 rfl ?_
  refine r_iadd (pc := 54) dX10_makes_54 ?_
  refine r_iconst (pc := 55) (0 : Int32) dX10_makes_55 (by decide) ?_
  replace hf := obind hf
  obtain ⟨S25, e26, hf⟩ := hf
  refine q_iast (pc := 56) dX10_makes_56 e26 ?_
  refine r_aload_n (pc := 57) dX10_makes_57 rfl ?_
  replace hf := obind hf
  obtain ⟨x27, e28, hf⟩ := hf
  refine q_getA (pc := 58) dX10_makes_58 gX10_7 e28 ?_
  refine r_sipush (pc := 61) (916 : Int32) dX10_makes_61 (by decide) ?_
  refine r_iload_n (pc := 64) dX10_makes_64 rfl ?_
  refine r_iadd (pc := 65) dX10_makes_65 ?_
  refine r_iconst (pc := 66) (0 : Int32) dX10_makes_66 (by decide) ?_
  replace hf := obind hf
  obtain ⟨S29, e30, hf⟩ := hf
  refine q_iast (pc := 67) dX10_makes_67 e30 ?_
  refine r_iload_n (pc := 68) dX10_makes_68 rfl ?_
  refine r_ireturn (pc := 69) .int dX10_makes_69 rfl rfl ?_
  cases hf
  exact hk
def F_X10_add (S : pS) (a0 : Nat) (a1 : Int32) (a2 : Int32) : Option (Int32 × pS) := (oF S a0 10).bind fun _ => (oPI S a0 10 0 (0 : Int32)).bind fun S1 => (F_X10_remembers S1 a0).bind fun q3 => (F_X10_isItem q3 a0 a1).bind fun q5 => if ¬ q5 = 0 then ((oGA q3 a0 10 1).bind fun x7 => (oAI q3 x7 .int ((916 : Int32) + a1)).bind fun x9 => (F_X10_in q3 a2 (0 : Int32) x9).bind fun q11 => if ¬ q11 = 0 then ((F_X10_isName q3 a0).bind fun q13 => if ¬ q13.1 = 0 then ((F_X10_reasonFor q13.2 a0 (-1 : Int32) a1).bind fun q15 => if q15.1 ≤ 0 then ((F_X10_makes q15.2 a0).bind fun q17 => (oGI q17.2 a0 10 22).bind fun x19 => (F_X10_names q17.2 a0 q17.1 (0 : Int32) x19).bind fun q21 => (F_X10_puts q21 a0 a1 a2 q17.1).bind fun q23 => (F_X10_keeps q23 a0).bind fun q25 => some (q17.1, q25)) else ((F_X10_refuses q15.2 a0 (10 : Int32) (-1 : Int32) q15.1).bind fun q27 => some (q27.1, q27.2))) else ((F_X10_fails q13.2 a0 (3 : Int32)).bind fun q29 => some (q29.1, q29.2))) else ((F_X10_fails q3 a0 (2 : Int32)).bind fun q31 => some (q31.1, q31.2))) else ((F_X10_fails q3 a0 (1 : Int32)).bind fun q33 => some (q33.1, q33.2))
set_option maxRecDepth 100000 in
set_option maxHeartbeats 4000000 in
theorem C_X10_add {X : pX} {Q : pO → Nat → pF → Prop} (S : pS) (a0 : Nat) (a1 : Int32) (a2 : Int32) (r : Int32 × pS) (hf : F_X10_add S a0 a1 a2 = some r) (hk : Q (.inl (some (.int r.1))) r.2.1 r.2.2) : gC X mX10_add [.ref a0, .int a1, .int a2] S.1 S.2 Q 0 0 := by
  refine gC_of (by decide) (Nat.le_of_ble_eq_true rfl) rfl ?_
  change gW _ _ _ [some (.ref a0), some (.int a1), some (.int a2), none, none] _ _ _ _ _ _
  unfold F_X10_add at hf
  obtain ⟨_, _, hf⟩ := obind hf
  refine r_aload_n (pc := 0) dX10_add_0 rfl ?_
  refine r_iconst (pc := 1) (0 : Int32) dX10_add_1 (by decide) ?_
  replace hf := obind hf
  obtain ⟨S1, e2, hf⟩ := hf
  refine q_putI (pc := 2) dX10_add_2 pX10_139 rfl e2 ?_
  refine r_aload_n (pc := 5) dX10_add_5 rfl ?_
  replace hf := obind hf
  obtain ⟨q3, e4, hf⟩ := hf
  refine q_callV (pc := 6) (v := none) (S' := q3) mX10_remembers 10 [] dX10_add_6 kX10_218 fX10_remembers iX10_remembers ⟨by decide, by decide⟩ rfl rfl rfl (Nat.le_of_ble_eq_true rfl) (og e4) (mc1 := 0) (ms1 := 0) (mc2 := 0) (ms2 := 0) (by decide) (by decide) (C_X10_remembers S1 a0 q3 e4 (qR_mk _ _)) ?_
  refine r_aload_n (pc := 9) dX10_add_9 rfl ?_
  refine r_iload_n (pc := 10) dX10_add_10 rfl ?_
  replace hf := obind hf
  obtain ⟨q5, e6, hf⟩ := hf
  refine q_callV (pc := 11) (v := some (.int q5)) (S' := q3) mX10_isItem 10 [.int a1] dX10_add_11 kX10_146 fX10_isItem iX10_isItem ⟨by decide, by decide⟩ rfl rfl rfl (Nat.le_of_ble_eq_true rfl) (og e6) (mc1 := 0) (ms1 := 0) (mc2 := 0) (ms2 := 0) (by decide) (by decide) (C_X10_isItem q3 a0 a1 q5 e6 (qR_mk _ _)) ?_
  change gW _ _ _ _ (.int q5 :: _) _ _ _ _ _
  refine r_if_ne (pc := 14) 23 dX10_add_14 (by decide) (fun hc => ?_) (fun hc => ?_)
  · rw [if_pos hc] at hf
    refine r_iload_n (pc := 23) dX10_add_23 rfl ?_
    refine r_iconst (pc := 24) (0 : Int32) dX10_add_24 (by decide) ?_
    refine r_aload_n (pc := 25) dX10_add_25 rfl ?_
    replace hf := obind hf
    obtain ⟨x7, e8, hf⟩ := hf
    refine q_getA (pc := 26) dX10_add_26 gX10_7 e8 ?_
    refine r_sipush (pc := 29) (916 : Int32) dX10_add_29 (by decide) ?_
    refine r_iload_n (pc := 32) dX10_add_32 rfl ?_
    refine r_iadd (pc := 33) dX10_add_33 ?_
    replace hf := obind hf
    obtain ⟨x9, e10, hf⟩ := hf
    refine q_iald (pc := 34) dX10_add_34 e10 ?_
    replace hf := obind hf
    obtain ⟨q11, e12, hf⟩ := hf
    refine q_callS (pc := 35) (v := some (.int q11)) (S' := q3) mX10_in [.int a2, .int (0 : Int32), .int x9] dX10_add_35 kX10_142 fX10_in sX10_in ⟨by decide, by decide⟩ rfl rfl (Nat.le_of_ble_eq_true rfl) (mc1 := 0) (ms1 := 0) (mc2 := 0) (ms2 := 0) (by decide) (by decide) (C_X10_in q3 a2 (0 : Int32) x9 q11 e12 (qR_mk _ _)) ?_
    change gW _ _ _ _ (.int q11 :: _) _ _ _ _ _
    refine r_if_ne (pc := 38) 47 dX10_add_38 (by decide) (fun hc => ?_) (fun hc => ?_)
    · rw [if_pos hc] at hf
      refine r_aload_n (pc := 47) dX10_add_47 rfl ?_
      replace hf := obind hf
      obtain ⟨q13, e14, hf⟩ := hf
      refine q_callV (pc := 48) (v := some (.int q13.1)) (S' := q13.2) mX10_isName 10 [] dX10_add_48 kX10_221 fX10_isName iX10_isName ⟨by decide, by decide⟩ rfl rfl rfl (Nat.le_of_ble_eq_true rfl) (og e14) (mc1 := 0) (ms1 := 0) (mc2 := 0) (ms2 := 0) (by decide) (by decide) (C_X10_isName q3 a0 q13 e14 (qR_mk _ _)) ?_
      change gW _ _ _ _ (.int q13.1 :: _) _ _ _ _ _
      refine r_if_ne (pc := 51) 60 dX10_add_51 (by decide) (fun hc => ?_) (fun hc => ?_)
      · rw [if_pos hc] at hf
        refine r_aload_n (pc := 60) dX10_add_60 rfl ?_
        refine r_iconst (pc := 61) (-1 : Int32) dX10_add_61 (by decide) ?_
        refine r_iload_n (pc := 62) dX10_add_62 rfl ?_
        replace hf := obind hf
        obtain ⟨q15, e16, hf⟩ := hf
        refine q_callV (pc := 63) (v := some (.int q15.1)) (S' := q15.2) mX10_reasonFor 10 [.int (-1 : Int32), .int a1] dX10_add_63 kX10_225 fX10_reasonFor iX10_reasonFor ⟨by decide, by decide⟩ rfl rfl rfl (Nat.le_of_ble_eq_true rfl) (og e16) (mc1 := 0) (ms1 := 0) (mc2 := 0) (ms2 := 0) (by decide) (by decide) (C_X10_reasonFor q13.2 a0 (-1 : Int32) a1 q15 e16 (qR_mk _ _)) ?_
        change gW _ _ _ _ (.int q15.1 :: _) _ _ _ _ _
        refine r_istore_n (pc := 66) dX10_add_66 (by decide) ?_
        change gW _ _ _ [some (.ref a0), some (.int a1), some (.int a2), some (.int q15.1), none] _ _ _ _ _ _
        refine r_iload_n (pc := 67) dX10_add_67 rfl ?_
        refine r_if_le (pc := 68) 80 dX10_add_68 (by decide) (fun hc => ?_) (fun hc => ?_)
        · rw [if_pos hc] at hf
          refine r_aload_n (pc := 80) dX10_add_80 rfl ?_
          replace hf := obind hf
          obtain ⟨q17, e18, hf⟩ := hf
          refine q_callV (pc := 81) (v := some (.int q17.1)) (S' := q17.2) mX10_makes 10 [] dX10_add_81 kX10_232 fX10_makes iX10_makes ⟨by decide, by decide⟩ rfl rfl rfl (Nat.le_of_ble_eq_true rfl) (og e18) (mc1 := 0) (ms1 := 0) (mc2 := 0) (ms2 := 0) (by decide) (by decide) (C_X10_makes q15.2 a0 q17 e18 (qR_mk _ _)) ?_
          change gW _ _ _ _ (.int q17.1 :: _) _ _ _ _ _
          refine r_istore (pc := 84) dX10_add_84 (by decide) ?_
          change gW _ _ _ [some (.ref a0), some (.int a1), some (.int a2), some (.int q15.1), some (.int q17.1)] _ _ _ _ _ _
          refine r_aload_n (pc := 86) dX10_add_86 rfl ?_
          refine r_iload (pc := 87) dX10_add_87 rfl ?_
          refine r_iconst (pc := 89) (0 : Int32) dX10_add_89 (by decide) ?_
          refine r_aload_n (pc := 90) dX10_add_90 rfl ?_
          replace hf := obind hf
          obtain ⟨x19, e20, hf⟩ := hf
          refine q_getI (pc := 91) dX10_add_91 gX10_202 e20 ?_
          replace hf := obind hf
          obtain ⟨q21, e22, hf⟩ := hf
          refine q_callV (pc := 94) (v := none) (S' := q21) mX10_names 10 [.int q17.1, .int (0 : Int32), .int x19] dX10_add_94 kX10_235 fX10_names iX10_names ⟨by decide, by decide⟩ rfl rfl rfl (Nat.le_of_ble_eq_true rfl) (og e22) (mc1 := 0) (ms1 := 0) (mc2 := 0) (ms2 := 0) (by decide) (by decide) (C_X10_names q17.2 a0 q17.1 (0 : Int32) x19 q21 e22 (qR_mk _ _)) ?_
          refine r_aload_n (pc := 97) dX10_add_97 rfl ?_
          refine r_iload_n (pc := 98) dX10_add_98 rfl ?_
          refine r_iload_n (pc := 99) dX10_add_99 rfl ?_
          refine r_iload (pc := 100) dX10_add_100 rfl ?_
          replace hf := obind hf
          obtain ⟨q23, e24, hf⟩ := hf
          refine q_callV (pc := 102) (v := none) (S' := q23) mX10_puts 10 [.int a1, .int a2, .int q17.1] dX10_add_102 kX10_239 fX10_puts iX10_puts ⟨by decide, by decide⟩ rfl rfl rfl (Nat.le_of_ble_eq_true rfl) (og e24) (mc1 := 0) (ms1 := 0) (mc2 := 0) (ms2 := 0) (by decide) (by decide) (C_X10_puts q21 a0 a1 a2 q17.1 q23 e24 (qR_mk _ _)) ?_
          refine r_aload_n (pc := 105) dX10_add_105 rfl ?_
          replace hf := obind hf
          obtain ⟨q25, e26, hf⟩ := hf
          refine q_callV (pc := 106) (v := none) (S' := q25) mX10_keeps 10 [] dX10_add_106 kX10_242 fX10_keeps iX10_keeps ⟨by decide, by decide⟩ rfl rfl rfl (Nat.le_of_ble_eq_true rfl) (og e26) (mc1 := 0) (ms1 := 0) (mc2 := 0) (ms2 := 0) (by decide) (by decide) (C_X10_keeps q23 a0 q25 e26 (qR_mk _ _)) ?_
          refine r_iload (pc := 109) dX10_add_109 rfl ?_
          refine r_ireturn (pc := 111) .int dX10_add_111 rfl rfl ?_
          cases hf
          exact hk
        · rw [if_neg hc] at hf
          refine r_aload_n (pc := 71) dX10_add_71 rfl ?_
          refine r_bipush (pc := 72) (10 : Int32) dX10_add_72 (by decide) ?_
          refine r_iconst (pc := 74) (-1 : Int32) dX10_add_74 (by decide) ?_
          refine r_iload_n (pc := 75) dX10_add_75 rfl ?_
          replace hf := obind hf
          obtain ⟨q27, e28, hf⟩ := hf
          refine q_callV (pc := 76) (v := some (.int q27.1)) (S' := q27.2) mX10_refuses 10 [.int (10 : Int32), .int (-1 : Int32), .int q15.1] dX10_add_76 kX10_228 fX10_refuses iX10_refuses ⟨by decide, by decide⟩ rfl rfl rfl (Nat.le_of_ble_eq_true rfl) (og e28) (mc1 := 0) (ms1 := 0) (mc2 := 0) (ms2 := 0) (by decide) (by decide) (C_X10_refuses q15.2 a0 (10 : Int32) (-1 : Int32) q15.1 q27 e28 (qR_mk _ _)) ?_
          change gW _ _ _ _ (.int q27.1 :: _) _ _ _ _ _
          refine r_ireturn (pc := 79) .int dX10_add_79 rfl rfl ?_
          cases hf
          exact hk
      · rw [if_neg hc] at hf
        refine r_aload_n (pc := 54) dX10_add_54 rfl ?_
        refine r_iconst (pc := 55) (3 : Int32) dX10_add_55 (by decide) ?_
        replace hf := obind hf
        obtain ⟨q29, e30, hf⟩ := hf
        refine q_callV (pc := 56) (v := some (.int q29.1)) (S' := q29.2) mX10_fails 10 [.int (3 : Int32)] dX10_add_56 kX10_186 fX10_fails iX10_fails ⟨by decide, by decide⟩ rfl rfl rfl (Nat.le_of_ble_eq_true rfl) (og e30) (mc1 := 0) (ms1 := 0) (mc2 := 0) (ms2 := 0) (by decide) (by decide) (C_X10_fails q13.2 a0 (3 : Int32) q29 e30 (qR_mk _ _)) ?_
        change gW _ _ _ _ (.int q29.1 :: _) _ _ _ _ _
        refine r_ireturn (pc := 59) .int dX10_add_59 rfl rfl ?_
        cases hf
        exact hk
    · rw [if_neg hc] at hf
      refine r_aload_n (pc := 41) dX10_add_41 rfl ?_
      refine r_iconst (pc := 42) (2 : Int32) dX10_add_42 (by decide) ?_
      replace hf := obind hf
      obtain ⟨q31, e32, hf⟩ := hf
      refine q_callV (pc := 43) (v := some (.int q31.1)) (S' := q31.2) mX10_fails 10 [.int (2 : Int32)] dX10_add_43 kX10_186 fX10_fails iX10_fails ⟨by decide, by decide⟩ rfl rfl rfl (Nat.le_of_ble_eq_true rfl) (og e32) (mc1 := 0) (ms1 := 0) (mc2 := 0) (ms2 := 0) (by decide) (by decide) (C_X10_fails q3 a0 (2 : Int32) q31 e32 (qR_mk _ _)) ?_
      change gW _ _ _ _ (.int q31.1 :: _) _ _ _ _ _
      refine r_ireturn (pc := 46) .int dX10_add_46 rfl rfl ?_
      cases hf
      exact hk
  · rw [if_neg hc] at hf
    refine r_aload_n (pc := 17) dX10_add_17 rfl ?_
    refine r_iconst (pc := 18) (1 : Int32) dX10_add_18 (by decide) ?_
    replace hf := obind hf
    obtain ⟨q33, e34, hf⟩ := hf
    refine q_callV (pc := 19) (v := some (.int q33.1)) (S' := q33.2) mX10_fails 10 [.int (1 : Int32)] dX10_add_19 kX10_186 fX10_fails iX10_fails ⟨by decide, by decide⟩ rfl rfl rfl (Nat.le_of_ble_eq_true rfl) (og e34) (mc1 := 0) (ms1 := 0) (mc2 := 0) (ms2 := 0) (by decide) (by decide) (C_X10_fails q3 a0 (1 : Int32) q33 e34 (qR_mk _ _)) ?_
    change gW _ _ _ _ (.int q33.1 :: _) _ _ _ _ _
    refine r_ireturn (pc := 22) .int dX10_add_22 rfl rfl ?_
    cases hf
    exact hk
def F_X10_clone_25 (S : pS) (l0 : Nat) : Option (Int32 × pS) := (F_X10_fails S l0 (1 : Int32)).bind fun q7 => some (q7.1, q7.2)
set_option maxRecDepth 100000 in
set_option maxHeartbeats 4000000 in
theorem W_X10_clone_25 {X : pX} {Q : pO → Nat → pF → Prop} (S : pS) (l0 : Nat) (r : Int32 × pS) (hf : F_X10_clone_25 S l0 = some r) (hk : Q (.inl (some (.int r.1))) r.2.1 r.2.2) : gW X mX10_clone 25 [some (.ref l0), none, none, none, none] [] S.1 S.2 Q 0 0 := by
  unfold F_X10_clone_25 at hf
  refine r_aload_n (pc := 25) dX10_clone_25 rfl ?_
  refine r_iconst (pc := 26) (1 : Int32) dX10_clone_26 (by decide) ?_
  replace hf := obind hf
  obtain ⟨q7, e8, hf⟩ := hf
  refine q_callV (pc := 27) (v := some (.int q7.1)) (S' := q7.2) mX10_fails 10 [.int (1 : Int32)] dX10_clone_27 kX10_186 fX10_fails iX10_fails ⟨by decide, by decide⟩ rfl rfl rfl (Nat.le_of_ble_eq_true rfl) (og e8) (mc1 := 0) (ms1 := 0) (mc2 := 0) (ms2 := 0) (by decide) (by decide) (C_X10_fails S l0 (1 : Int32) q7 e8 (qR_mk _ _)) ?_
  change gW _ _ _ _ (.int q7.1 :: _) _ _ _ _ _
  refine r_ireturn (pc := 30) .int dX10_clone_30 rfl rfl ?_
  cases hf
  exact hk
def F_X10_clone (S : pS) (a0 : Nat) (a1 : Int32) (a2 : Int32) (a3 : Int32) : Option (Int32 × pS) := (oF S a0 10).bind fun _ => (oPI S a0 10 0 (0 : Int32)).bind fun S1 => (F_X10_remembers S1 a0).bind fun q3 => (F_X10_isOther q3 a0 a1).bind fun q5 => if q5 = 0 then (F_X10_clone_25 q3 a0) else ((F_X10_isItem q3 a0 a2).bind fun q9 => if ¬ q9 = 0 then ((oGA q3 a0 10 1).bind fun x11 => (oAI q3 x11 .int ((916 : Int32) + a2)).bind fun x13 => (F_X10_in q3 a3 (0 : Int32) x13).bind fun q15 => if ¬ q15 = 0 then ((F_X10_reasonFor q3 a0 a1 a2).bind fun q17 => if q17.1 ≤ 0 then ((F_X10_puts q17.2 a0 a2 a3 a1).bind fun q19 => (F_X10_keeps q19 a0).bind fun q21 => (F_X10_knows q21 a0).bind fun q23 => (oGA q23 a0 10 16).bind fun x25 => (oAI q23 x25 .int a1).bind fun x27 => some (x27, q23)) else ((F_X10_refuses q17.2 a0 (20 : Int32) (-1 : Int32) q17.1).bind fun q29 => (F_X10_fails q29.2 a0 (3 : Int32)).bind fun q31 => some (q31.1, q31.2))) else ((F_X10_fails q3 a0 (2 : Int32)).bind fun q33 => some (q33.1, q33.2))) else (F_X10_clone_25 q3 a0))
set_option maxRecDepth 100000 in
set_option maxHeartbeats 4000000 in
theorem C_X10_clone {X : pX} {Q : pO → Nat → pF → Prop} (S : pS) (a0 : Nat) (a1 : Int32) (a2 : Int32) (a3 : Int32) (r : Int32 × pS) (hf : F_X10_clone S a0 a1 a2 a3 = some r) (hk : Q (.inl (some (.int r.1))) r.2.1 r.2.2) : gC X mX10_clone [.ref a0, .int a1, .int a2, .int a3] S.1 S.2 Q 0 0 := by
  refine gC_of (by decide) (Nat.le_of_ble_eq_true rfl) rfl ?_
  change gW _ _ _ [some (.ref a0), some (.int a1), some (.int a2), some (.int a3), none] _ _ _ _ _ _
  unfold F_X10_clone at hf
  obtain ⟨_, _, hf⟩ := obind hf
  refine r_aload_n (pc := 0) dX10_clone_0 rfl ?_
  refine r_iconst (pc := 1) (0 : Int32) dX10_clone_1 (by decide) ?_
  replace hf := obind hf
  obtain ⟨S1, e2, hf⟩ := hf
  refine q_putI (pc := 2) dX10_clone_2 pX10_139 rfl e2 ?_
  refine r_aload_n (pc := 5) dX10_clone_5 rfl ?_
  replace hf := obind hf
  obtain ⟨q3, e4, hf⟩ := hf
  refine q_callV (pc := 6) (v := none) (S' := q3) mX10_remembers 10 [] dX10_clone_6 kX10_218 fX10_remembers iX10_remembers ⟨by decide, by decide⟩ rfl rfl rfl (Nat.le_of_ble_eq_true rfl) (og e4) (mc1 := 0) (ms1 := 0) (mc2 := 0) (ms2 := 0) (by decide) (by decide) (C_X10_remembers S1 a0 q3 e4 (qR_mk _ _)) ?_
  refine r_aload_n (pc := 9) dX10_clone_9 rfl ?_
  refine r_iload_n (pc := 10) dX10_clone_10 rfl ?_
  replace hf := obind hf
  obtain ⟨q5, e6, hf⟩ := hf
  refine q_callV (pc := 11) (v := some (.int q5)) (S' := q3) mX10_isOther 10 [.int a1] dX10_clone_11 kX10_245 fX10_isOther iX10_isOther ⟨by decide, by decide⟩ rfl rfl rfl (Nat.le_of_ble_eq_true rfl) (og e6) (mc1 := 0) (ms1 := 0) (mc2 := 0) (ms2 := 0) (by decide) (by decide) (C_X10_isOther q3 a0 a1 q5 e6 (qR_mk _ _)) ?_
  change gW _ _ _ _ (.int q5 :: _) _ _ _ _ _
  refine r_if_eq (pc := 14) 25 dX10_clone_14 (by decide) (fun hc => ?_) (fun hc => ?_)
  · rw [if_pos hc] at hf
    refine gW.mono (mc := 0) (ms := 0) ?_ (fun _ _ _ q => q) (by decide) (by decide)
    exact gW.weak (by simp [gle]) (W_X10_clone_25 q3 a0 r hf hk)
  · rw [if_neg hc] at hf
    refine r_aload_n (pc := 17) dX10_clone_17 rfl ?_
    refine r_iload_n (pc := 18) dX10_clone_18 rfl ?_
    replace hf := obind hf
    obtain ⟨q9, e10, hf⟩ := hf
    refine q_callV (pc := 19) (v := some (.int q9)) (S' := q3) mX10_isItem 10 [.int a2] dX10_clone_19 kX10_146 fX10_isItem iX10_isItem ⟨by decide, by decide⟩ rfl rfl rfl (Nat.le_of_ble_eq_true rfl) (og e10) (mc1 := 0) (ms1 := 0) (mc2 := 0) (ms2 := 0) (by decide) (by decide) (C_X10_isItem q3 a0 a2 q9 e10 (qR_mk _ _)) ?_
    change gW _ _ _ _ (.int q9 :: _) _ _ _ _ _
    refine r_if_ne (pc := 22) 31 dX10_clone_22 (by decide) (fun hc => ?_) (fun hc => ?_)
    · rw [if_pos hc] at hf
      refine r_iload_n (pc := 31) dX10_clone_31 rfl ?_
      refine r_iconst (pc := 32) (0 : Int32) dX10_clone_32 (by decide) ?_
      refine r_aload_n (pc := 33) dX10_clone_33 rfl ?_
      replace hf := obind hf
      obtain ⟨x11, e12, hf⟩ := hf
      refine q_getA (pc := 34) dX10_clone_34 gX10_7 e12 ?_
      refine r_sipush (pc := 37) (916 : Int32) dX10_clone_37 (by decide) ?_
      refine r_iload_n (pc := 40) dX10_clone_40 rfl ?_
      refine r_iadd (pc := 41) dX10_clone_41 ?_
      replace hf := obind hf
      obtain ⟨x13, e14, hf⟩ := hf
      refine q_iald (pc := 42) dX10_clone_42 e14 ?_
      replace hf := obind hf
      obtain ⟨q15, e16, hf⟩ := hf
      refine q_callS (pc := 43) (v := some (.int q15)) (S' := q3) mX10_in [.int a3, .int (0 : Int32), .int x13] dX10_clone_43 kX10_142 fX10_in sX10_in ⟨by decide, by decide⟩ rfl rfl (Nat.le_of_ble_eq_true rfl) (mc1 := 0) (ms1 := 0) (mc2 := 0) (ms2 := 0) (by decide) (by decide) (C_X10_in q3 a3 (0 : Int32) x13 q15 e16 (qR_mk _ _)) ?_
      change gW _ _ _ _ (.int q15 :: _) _ _ _ _ _
      refine r_if_ne (pc := 46) 55 dX10_clone_46 (by decide) (fun hc => ?_) (fun hc => ?_)
      · rw [if_pos hc] at hf
        refine r_aload_n (pc := 55) dX10_clone_55 rfl ?_
        refine r_iload_n (pc := 56) dX10_clone_56 rfl ?_
        refine r_iload_n (pc := 57) dX10_clone_57 rfl ?_
        replace hf := obind hf
        obtain ⟨q17, e18, hf⟩ := hf
        refine q_callV (pc := 58) (v := some (.int q17.1)) (S' := q17.2) mX10_reasonFor 10 [.int a1, .int a2] dX10_clone_58 kX10_225 fX10_reasonFor iX10_reasonFor ⟨by decide, by decide⟩ rfl rfl rfl (Nat.le_of_ble_eq_true rfl) (og e18) (mc1 := 0) (ms1 := 0) (mc2 := 0) (ms2 := 0) (by decide) (by decide) (C_X10_reasonFor q3 a0 a1 a2 q17 e18 (qR_mk _ _)) ?_
        change gW _ _ _ _ (.int q17.1 :: _) _ _ _ _ _
        refine r_istore (pc := 61) dX10_clone_61 (by decide) ?_
        change gW _ _ _ [some (.ref a0), some (.int a1), some (.int a2), some (.int a3), some (.int q17.1)] _ _ _ _ _ _
        refine r_iload (pc := 63) dX10_clone_63 rfl ?_
        refine r_if_le (pc := 65) 84 dX10_clone_65 (by decide) (fun hc => ?_) (fun hc => ?_)
        · rw [if_pos hc] at hf
          refine r_aload_n (pc := 84) dX10_clone_84 rfl ?_
          refine r_iload_n (pc := 85) dX10_clone_85 rfl ?_
          refine r_iload_n (pc := 86) dX10_clone_86 rfl ?_
          refine r_iload_n (pc := 87) dX10_clone_87 rfl ?_
          replace hf := obind hf
          obtain ⟨q19, e20, hf⟩ := hf
          refine q_callV (pc := 88) (v := none) (S' := q19) mX10_puts 10 [.int a2, .int a3, .int a1] dX10_clone_88 kX10_239 fX10_puts iX10_puts ⟨by decide, by decide⟩ rfl rfl rfl (Nat.le_of_ble_eq_true rfl) (og e20) (mc1 := 0) (ms1 := 0) (mc2 := 0) (ms2 := 0) (by decide) (by decide) (C_X10_puts q17.2 a0 a2 a3 a1 q19 e20 (qR_mk _ _)) ?_
          refine r_aload_n (pc := 91) dX10_clone_91 rfl ?_
          replace hf := obind hf
          obtain ⟨q21, e22, hf⟩ := hf
          refine q_callV (pc := 92) (v := none) (S' := q21) mX10_keeps 10 [] dX10_clone_92 kX10_242 fX10_keeps iX10_keeps ⟨by decide, by decide⟩ rfl rfl rfl (Nat.le_of_ble_eq_true rfl) (og e22) (mc1 := 0) (ms1 := 0) (mc2 := 0) (ms2 := 0) (by decide) (by decide) (C_X10_keeps q19 a0 q21 e22 (qR_mk _ _)) ?_
          refine r_aload_n (pc := 95) dX10_clone_95 rfl ?_
          replace hf := obind hf
          obtain ⟨q23, e24, hf⟩ := hf
          refine q_callV (pc := 96) (v := none) (S' := q23) mX10_knows 10 [] dX10_clone_96 kX10_169 fX10_knows iX10_knows ⟨by decide, by decide⟩ rfl rfl rfl (Nat.le_of_ble_eq_true rfl) (og e24) (mc1 := 0) (ms1 := 0) (mc2 := 0) (ms2 := 0) (by decide) (by decide) (C_X10_knows q21 a0 q23 e24 (qR_mk _ _)) ?_
          refine r_aload_n (pc := 99) dX10_clone_99 rfl ?_
          replace hf := obind hf
          obtain ⟨x25, e26, hf⟩ := hf
          refine q_getA (pc := 100) dX10_clone_100 gX10_41 e26 ?_
          refine r_iload_n (pc := 103) dX10_clone_103 rfl ?_
          replace hf := obind hf
          obtain ⟨x27, e28, hf⟩ := hf
          refine q_iald (pc := 104) dX10_clone_104 e28 ?_
          refine r_ireturn (pc := 105) .int dX10_clone_105 rfl rfl ?_
          cases hf
          exact hk
        · rw [if_neg hc] at hf
          refine r_aload_n (pc := 68) dX10_clone_68 rfl ?_
          refine r_bipush (pc := 69) (20 : Int32) dX10_clone_69 (by decide) ?_
          refine r_iconst (pc := 71) (-1 : Int32) dX10_clone_71 (by decide) ?_
          refine r_iload (pc := 72) dX10_clone_72 rfl ?_
          replace hf := obind hf
          obtain ⟨q29, e30, hf⟩ := hf
          refine q_callV (pc := 74) (v := some (.int q29.1)) (S' := q29.2) mX10_refuses 10 [.int (20 : Int32), .int (-1 : Int32), .int q17.1] dX10_clone_74 kX10_228 fX10_refuses iX10_refuses ⟨by decide, by decide⟩ rfl rfl rfl (Nat.le_of_ble_eq_true rfl) (og e30) (mc1 := 0) (ms1 := 0) (mc2 := 0) (ms2 := 0) (by decide) (by decide) (C_X10_refuses q17.2 a0 (20 : Int32) (-1 : Int32) q17.1 q29 e30 (qR_mk _ _)) ?_
          change gW _ _ _ _ (.int q29.1 :: _) _ _ _ _ _
          refine r_pop (pc := 77) dX10_clone_77 rfl ?_
          refine r_aload_n (pc := 78) dX10_clone_78 rfl ?_
          refine r_iconst (pc := 79) (3 : Int32) dX10_clone_79 (by decide) ?_
          replace hf := obind hf
          obtain ⟨q31, e32, hf⟩ := hf
          refine q_callV (pc := 80) (v := some (.int q31.1)) (S' := q31.2) mX10_fails 10 [.int (3 : Int32)] dX10_clone_80 kX10_186 fX10_fails iX10_fails ⟨by decide, by decide⟩ rfl rfl rfl (Nat.le_of_ble_eq_true rfl) (og e32) (mc1 := 0) (ms1 := 0) (mc2 := 0) (ms2 := 0) (by decide) (by decide) (C_X10_fails q29.2 a0 (3 : Int32) q31 e32 (qR_mk _ _)) ?_
          change gW _ _ _ _ (.int q31.1 :: _) _ _ _ _ _
          refine r_ireturn (pc := 83) .int dX10_clone_83 rfl rfl ?_
          cases hf
          exact hk
      · rw [if_neg hc] at hf
        refine r_aload_n (pc := 49) dX10_clone_49 rfl ?_
        refine r_iconst (pc := 50) (2 : Int32) dX10_clone_50 (by decide) ?_
        replace hf := obind hf
        obtain ⟨q33, e34, hf⟩ := hf
        refine q_callV (pc := 51) (v := some (.int q33.1)) (S' := q33.2) mX10_fails 10 [.int (2 : Int32)] dX10_clone_51 kX10_186 fX10_fails iX10_fails ⟨by decide, by decide⟩ rfl rfl rfl (Nat.le_of_ble_eq_true rfl) (og e34) (mc1 := 0) (ms1 := 0) (mc2 := 0) (ms2 := 0) (by decide) (by decide) (C_X10_fails q3 a0 (2 : Int32) q33 e34 (qR_mk _ _)) ?_
        change gW _ _ _ _ (.int q33.1 :: _) _ _ _ _ _
        refine r_ireturn (pc := 54) .int dX10_clone_54 rfl rfl ?_
        cases hf
        exact hk
    · rw [if_neg hc] at hf
      refine gW.mono (mc := 0) (ms := 0) ?_ (fun _ _ _ q => q) (by decide) (by decide)
      exact gW.weak (by simp [gle]) (W_X10_clone_25 q3 a0 r hf hk)
abbrev L_X10_removes_8 (l0 : Nat) : Int32 × Int32 × pS → List (Option Value) := fun a => [some (.ref l0), some (.int a.1), some (.int a.2.1)]
abbrev s_X10_removes_8 (l0 : Nat) : Int32 × Int32 × pS → pS := fun a => a.2.2
abbrev K_X10_removes_8 (X : pX) (Q : pO → Nat → pF → Prop) (mc ms : Nat) (l0 : Nat) : Int32 × pS → Prop := (fun b => gW X mX10_removes 53 [some (.ref l0), some (.int b.1), none] [] b.2.1 b.2.2 Q mc ms)
def F_X10_removes_8 (l0 : Nat) : Int32 × Int32 × pS → Option ((Int32 × Int32 × pS) ⊕ (Int32 × pS)) := fun a => if (61 : Int32) ≤ a.2.1 then (some (.inr (a.1, a.2.2))) else ((oGA a.2.2 l0 10 1).bind fun x3 => (oAI a.2.2 x3 .int ((1 : Int32) + a.2.1)).bind fun x5 => if ¬ x5 = (1 : Int32) then (some (.inl (a.1, a.2.1 + (1 : Int32), a.2.2))) else ((F_X10_isUnder a.2.2 l0 a.2.1 (0 : Int32)).bind fun q7 => if ¬ q7 = 0 then (some (.inl (a.1, a.2.1 + (1 : Int32), a.2.2))) else ((oGA a.2.2 l0 10 1).bind fun x9 => (oSI a.2.2 x9 .int ((1 : Int32) + a.2.1) (0 : Int32)).bind fun S11 => some (.inl (a.1 + (1 : Int32), a.2.1 + (1 : Int32), S11)))))
set_option maxRecDepth 100000 in
set_option maxHeartbeats 4000000 in
theorem W_X10_removes_8 {X : pX} {Q : pO → Nat → pF → Prop} {mc ms : Nat} (l0 : Nat) : ∀ (a : Int32 × Int32 × pS) (r : (Int32 × Int32 × pS) ⊕ (Int32 × pS)), F_X10_removes_8 l0 a = some r → Sum.elim (fun a' => gW X mX10_removes 8 (L_X10_removes_8 l0 a') [] (s_X10_removes_8 l0 a').1 (s_X10_removes_8 l0 a').2 Q mc ms) (K_X10_removes_8 X Q mc ms l0) r → gW X mX10_removes 8 (L_X10_removes_8 l0 a) [] (s_X10_removes_8 l0 a).1 (s_X10_removes_8 l0 a).2 Q mc ms := by
  intro a r hf hk
  obtain ⟨l1, l2, S⟩ := a
  unfold F_X10_removes_8 at hf
  try dsimp only at hf
  change gW _ _ _ [some (.ref l0), some (.int l1), some (.int l2)] _ S.1 S.2 _ _ _
  refine r_iload_n (pc := 8) dX10_removes_8 rfl ?_
  refine r_bipush (pc := 9) (61 : Int32) dX10_removes_9 (by decide) ?_
  refine r_icmp_ge (pc := 11) 53 dX10_removes_11 (by decide) (fun hc => ?_) (fun hc => ?_)
  · rw [if_pos hc] at hf
    cases hf
    exact gW.weak (by simp [gle]) hk
  · rw [if_neg hc] at hf
    refine r_aload_n (pc := 14) dX10_removes_14 rfl ?_
    replace hf := obind hf
    obtain ⟨x3, e4, hf⟩ := hf
    refine q_getA (pc := 15) dX10_removes_15 gX10_7 e4 ?_
    refine r_iconst (pc := 18) (1 : Int32) dX10_removes_18 (by decide) ?_
    refine r_iload_n (pc := 19) dX10_removes_19 rfl ?_
    refine r_iadd (pc := 20) dX10_removes_20 ?_
    replace hf := obind hf
    obtain ⟨x5, e6, hf⟩ := hf
    refine q_iald (pc := 21) dX10_removes_21 e6 ?_
    refine r_iconst (pc := 22) (1 : Int32) dX10_removes_22 (by decide) ?_
    refine r_icmp_ne (pc := 23) 47 dX10_removes_23 (by decide) (fun hc => ?_) (fun hc => ?_)
    · rw [if_pos hc] at hf
      refine r_iinc (pc := 47) dX10_removes_47 rfl (by decide) ?_
      change gW _ _ _ [some (.ref l0), some (.int l1), some (.int (l2 + (1 : Int32)))] _ _ _ _ _ _
      refine r_goto (pc := 50) 8 dX10_removes_50 (by decide) ?_
      cases hf
      exact gW.weak (by simp [gle]) hk
    · rw [if_neg hc] at hf
      refine r_aload_n (pc := 26) dX10_removes_26 rfl ?_
      refine r_iload_n (pc := 27) dX10_removes_27 rfl ?_
      refine r_iconst (pc := 28) (0 : Int32) dX10_removes_28 (by decide) ?_
      replace hf := obind hf
      obtain ⟨q7, e8, hf⟩ := hf
      refine q_callV (pc := 29) (v := some (.int q7)) (S' := S) mX10_isUnder 10 [.int l2, .int (0 : Int32)] dX10_removes_29 kX10_175 fX10_isUnder iX10_isUnder ⟨by decide, by decide⟩ rfl rfl rfl (Nat.le_of_ble_eq_true rfl) (og e8) (mc1 := 0) (ms1 := 0) (mc2 := mc) (ms2 := ms) (by omega) (by omega) (C_X10_isUnder S l0 l2 (0 : Int32) q7 e8 (qR_mk _ _)) ?_
      change gW _ _ _ _ (.int q7 :: _) _ _ _ _ _
      refine r_if_ne (pc := 32) 47 dX10_removes_32 (by decide) (fun hc => ?_) (fun hc => ?_)
      · rw [if_pos hc] at hf
        refine r_iinc (pc := 47) dX10_removes_47 rfl (by decide) ?_
        change gW _ _ _ [some (.ref l0), some (.int l1), some (.int (l2 + (1 : Int32)))] _ _ _ _ _ _
        refine r_goto (pc := 50) 8 dX10_removes_50 (by decide) ?_
        cases hf
        exact gW.weak (by simp [gle]) hk
      · rw [if_neg hc] at hf
        refine r_aload_n (pc := 35) dX10_removes_35 rfl ?_
        replace hf := obind hf
        obtain ⟨x9, e10, hf⟩ := hf
        refine q_getA (pc := 36) dX10_removes_36 gX10_7 e10 ?_
        refine r_iconst (pc := 39) (1 : Int32) dX10_removes_39 (by decide) ?_
        refine r_iload_n (pc := 40) dX10_removes_40 rfl ?_
        refine r_iadd (pc := 41) dX10_removes_41 ?_
        refine r_iconst (pc := 42) (0 : Int32) dX10_removes_42 (by decide) ?_
        replace hf := obind hf
        obtain ⟨S11, e12, hf⟩ := hf
        refine q_iast (pc := 43) dX10_removes_43 e12 ?_
        refine r_iinc (pc := 44) dX10_removes_44 rfl (by decide) ?_
        change gW _ _ _ [some (.ref l0), some (.int (l1 + (1 : Int32))), some (.int l2)] _ _ _ _ _ _
        refine r_iinc (pc := 47) dX10_removes_47 rfl (by decide) ?_
        change gW _ _ _ [some (.ref l0), some (.int (l1 + (1 : Int32))), some (.int (l2 + (1 : Int32)))] _ _ _ _ _ _
        refine r_goto (pc := 50) 8 dX10_removes_50 (by decide) ?_
        cases hf
        exact gW.weak (by simp [gle]) hk
def F_X10_removes (S : pS) (a0 : Nat) : Option (Int32 × pS) := (oF S a0 10).bind fun _ => (F_X10_knows S a0).bind fun q1 => (iter (F_X10_removes_8 a0) fu ((0 : Int32), (1 : Int32), q1)).bind fun r13 => some (r13.1, r13.2)
set_option maxRecDepth 100000 in
set_option maxHeartbeats 4000000 in
theorem C_X10_removes {X : pX} {Q : pO → Nat → pF → Prop} (S : pS) (a0 : Nat) (r : Int32 × pS) (hf : F_X10_removes S a0 = some r) (hk : Q (.inl (some (.int r.1))) r.2.1 r.2.2) : gC X mX10_removes [.ref a0] S.1 S.2 Q 0 0 := by
  refine gC_of (by decide) (Nat.le_of_ble_eq_true rfl) rfl ?_
  change gW _ _ _ [some (.ref a0), none, none] _ _ _ _ _ _
  unfold F_X10_removes at hf
  obtain ⟨_, _, hf⟩ := obind hf
  refine r_aload_n (pc := 0) dX10_removes_0 rfl ?_
  replace hf := obind hf
  obtain ⟨q1, e2, hf⟩ := hf
  refine q_callV (pc := 1) (v := none) (S' := q1) mX10_knows 10 [] dX10_removes_1 kX10_169 fX10_knows iX10_knows ⟨by decide, by decide⟩ rfl rfl rfl (Nat.le_of_ble_eq_true rfl) (og e2) (mc1 := 0) (ms1 := 0) (mc2 := 0) (ms2 := 0) (by decide) (by decide) (C_X10_knows S a0 q1 e2 (qR_mk _ _)) ?_
  refine r_iconst (pc := 4) (0 : Int32) dX10_removes_4 (by decide) ?_
  refine r_istore_n (pc := 5) dX10_removes_5 (by decide) ?_
  change gW _ _ _ [some (.ref a0), some (.int (0 : Int32)), none] _ _ _ _ _ _
  refine r_iconst (pc := 6) (1 : Int32) dX10_removes_6 (by decide) ?_
  refine r_istore_n (pc := 7) dX10_removes_7 (by decide) ?_
  change gW _ _ _ [some (.ref a0), some (.int (0 : Int32)), some (.int (1 : Int32))] _ _ _ _ _ _
  replace hf := obind hf
  obtain ⟨r13, e14, hf⟩ := hf
  refine gW.weak (ls' := [some (.ref a0), some (.int (0 : Int32)), some (.int (1 : Int32))]) (by simp [gle]) ?_
  refine g_iter (L := L_X10_removes_8 a0) (s := s_X10_removes_8 a0) (K := K_X10_removes_8 X Q _ _ a0) (W_X10_removes_8 a0) fu ((0 : Int32), (1 : Int32), q1) _ e14 ?_
  show gW _ _ 53 [some (.ref a0), some (.int r13.1), none] [] r13.2.1 r13.2.2 _ _ _
  refine r_iload_n (pc := 53) dX10_removes_53 rfl ?_
  refine r_ireturn (pc := 54) .int dX10_removes_54 rfl rfl ?_
  cases hf
  exact hk
def F_X10_detach (S : pS) (a0 : Nat) (a1 : Int32) (a2 : Int32) : Option (Int32 × pS) := (oF S a0 10).bind fun _ => (oPI S a0 10 0 (0 : Int32)).bind fun S1 => (F_X10_remembers S1 a0).bind fun q3 => (F_X10_isItem q3 a0 a1).bind fun q5 => if ¬ q5 = 0 then ((oGA q3 a0 10 1).bind fun x7 => (oAI q3 x7 .int ((916 : Int32) + a1)).bind fun x9 => (F_X10_in q3 a2 (0 : Int32) (x9 - (1 : Int32))).bind fun q11 => if ¬ q11 = 0 then ((F_X10_pulls q3 a0 a1 a2).bind fun q13 => (F_X10_removes q13.2 a0).bind fun q15 => (F_X10_keeps q15.2 a0).bind fun q17 => some (q15.1, q17)) else ((F_X10_fails q3 a0 (2 : Int32)).bind fun q19 => some (q19.1, q19.2))) else ((F_X10_fails q3 a0 (1 : Int32)).bind fun q21 => some (q21.1, q21.2))
set_option maxRecDepth 100000 in
set_option maxHeartbeats 4000000 in
theorem C_X10_detach {X : pX} {Q : pO → Nat → pF → Prop} (S : pS) (a0 : Nat) (a1 : Int32) (a2 : Int32) (r : Int32 × pS) (hf : F_X10_detach S a0 a1 a2 = some r) (hk : Q (.inl (some (.int r.1))) r.2.1 r.2.2) : gC X mX10_detach [.ref a0, .int a1, .int a2] S.1 S.2 Q 0 0 := by
  refine gC_of (by decide) (Nat.le_of_ble_eq_true rfl) rfl ?_
  change gW _ _ _ [some (.ref a0), some (.int a1), some (.int a2), none] _ _ _ _ _ _
  unfold F_X10_detach at hf
  obtain ⟨_, _, hf⟩ := obind hf
  refine r_aload_n (pc := 0) dX10_detach_0 rfl ?_
  refine r_iconst (pc := 1) (0 : Int32) dX10_detach_1 (by decide) ?_
  replace hf := obind hf
  obtain ⟨S1, e2, hf⟩ := hf
  refine q_putI (pc := 2) dX10_detach_2 pX10_139 rfl e2 ?_
  refine r_aload_n (pc := 5) dX10_detach_5 rfl ?_
  replace hf := obind hf
  obtain ⟨q3, e4, hf⟩ := hf
  refine q_callV (pc := 6) (v := none) (S' := q3) mX10_remembers 10 [] dX10_detach_6 kX10_218 fX10_remembers iX10_remembers ⟨by decide, by decide⟩ rfl rfl rfl (Nat.le_of_ble_eq_true rfl) (og e4) (mc1 := 0) (ms1 := 0) (mc2 := 0) (ms2 := 0) (by decide) (by decide) (C_X10_remembers S1 a0 q3 e4 (qR_mk _ _)) ?_
  refine r_aload_n (pc := 9) dX10_detach_9 rfl ?_
  refine r_iload_n (pc := 10) dX10_detach_10 rfl ?_
  replace hf := obind hf
  obtain ⟨q5, e6, hf⟩ := hf
  refine q_callV (pc := 11) (v := some (.int q5)) (S' := q3) mX10_isItem 10 [.int a1] dX10_detach_11 kX10_146 fX10_isItem iX10_isItem ⟨by decide, by decide⟩ rfl rfl rfl (Nat.le_of_ble_eq_true rfl) (og e6) (mc1 := 0) (ms1 := 0) (mc2 := 0) (ms2 := 0) (by decide) (by decide) (C_X10_isItem q3 a0 a1 q5 e6 (qR_mk _ _)) ?_
  change gW _ _ _ _ (.int q5 :: _) _ _ _ _ _
  refine r_if_ne (pc := 14) 23 dX10_detach_14 (by decide) (fun hc => ?_) (fun hc => ?_)
  · rw [if_pos hc] at hf
    refine r_iload_n (pc := 23) dX10_detach_23 rfl ?_
    refine r_iconst (pc := 24) (0 : Int32) dX10_detach_24 (by decide) ?_
    refine r_aload_n (pc := 25) dX10_detach_25 rfl ?_
    replace hf := obind hf
    obtain ⟨x7, e8, hf⟩ := hf
    refine q_getA (pc := 26) dX10_detach_26 gX10_7 e8 ?_
    refine r_sipush (pc := 29) (916 : Int32) dX10_detach_29 (by decide) ?_
    refine r_iload_n (pc := 32) dX10_detach_32 rfl ?_
    refine r_iadd (pc := 33) dX10_detach_33 ?_
    replace hf := obind hf
    obtain ⟨x9, e10, hf⟩ := hf
    refine q_iald (pc := 34) dX10_detach_34 e10 ?_
    refine r_iconst (pc := 35) (1 : Int32) dX10_detach_35 (by decide) ?_
    refine r_isub (pc := 36) dX10_detach_36 ?_
    replace hf := obind hf
    obtain ⟨q11, e12, hf⟩ := hf
    refine q_callS (pc := 37) (v := some (.int q11)) (S' := q3) mX10_in [.int a2, .int (0 : Int32), .int (x9 - (1 : Int32))] dX10_detach_37 kX10_142 fX10_in sX10_in ⟨by decide, by decide⟩ rfl rfl (Nat.le_of_ble_eq_true rfl) (mc1 := 0) (ms1 := 0) (mc2 := 0) (ms2 := 0) (by decide) (by decide) (C_X10_in q3 a2 (0 : Int32) (x9 - (1 : Int32)) q11 e12 (qR_mk _ _)) ?_
    change gW _ _ _ _ (.int q11 :: _) _ _ _ _ _
    refine r_if_ne (pc := 40) 49 dX10_detach_40 (by decide) (fun hc => ?_) (fun hc => ?_)
    · rw [if_pos hc] at hf
      refine r_aload_n (pc := 49) dX10_detach_49 rfl ?_
      refine r_iload_n (pc := 50) dX10_detach_50 rfl ?_
      refine r_iload_n (pc := 51) dX10_detach_51 rfl ?_
      replace hf := obind hf
      obtain ⟨q13, e14, hf⟩ := hf
      refine q_callV (pc := 52) (v := some (.int q13.1)) (S' := q13.2) mX10_pulls 10 [.int a1, .int a2] dX10_detach_52 kX10_248 fX10_pulls iX10_pulls ⟨by decide, by decide⟩ rfl rfl rfl (Nat.le_of_ble_eq_true rfl) (og e14) (mc1 := 0) (ms1 := 0) (mc2 := 0) (ms2 := 0) (by decide) (by decide) (C_X10_pulls q3 a0 a1 a2 q13 e14 (qR_mk _ _)) ?_
      change gW _ _ _ _ (.int q13.1 :: _) _ _ _ _ _
      refine r_pop (pc := 55) dX10_detach_55 rfl ?_
      refine r_aload_n (pc := 56) dX10_detach_56 rfl ?_
      replace hf := obind hf
      obtain ⟨q15, e16, hf⟩ := hf
      refine q_callV (pc := 57) (v := some (.int q15.1)) (S' := q15.2) mX10_removes 10 [] dX10_detach_57 kX10_251 fX10_removes iX10_removes ⟨by decide, by decide⟩ rfl rfl rfl (Nat.le_of_ble_eq_true rfl) (og e16) (mc1 := 0) (ms1 := 0) (mc2 := 0) (ms2 := 0) (by decide) (by decide) (C_X10_removes q13.2 a0 q15 e16 (qR_mk _ _)) ?_
      change gW _ _ _ _ (.int q15.1 :: _) _ _ _ _ _
      refine r_istore_n (pc := 60) dX10_detach_60 (by decide) ?_
      change gW _ _ _ [some (.ref a0), some (.int a1), some (.int a2), some (.int q15.1)] _ _ _ _ _ _
      refine r_aload_n (pc := 61) dX10_detach_61 rfl ?_
      replace hf := obind hf
      obtain ⟨q17, e18, hf⟩ := hf
      refine q_callV (pc := 62) (v := none) (S' := q17) mX10_keeps 10 [] dX10_detach_62 kX10_242 fX10_keeps iX10_keeps ⟨by decide, by decide⟩ rfl rfl rfl (Nat.le_of_ble_eq_true rfl) (og e18) (mc1 := 0) (ms1 := 0) (mc2 := 0) (ms2 := 0) (by decide) (by decide) (C_X10_keeps q15.2 a0 q17 e18 (qR_mk _ _)) ?_
      refine r_iload_n (pc := 65) dX10_detach_65 rfl ?_
      refine r_ireturn (pc := 66) .int dX10_detach_66 rfl rfl ?_
      cases hf
      exact hk
    · rw [if_neg hc] at hf
      refine r_aload_n (pc := 43) dX10_detach_43 rfl ?_
      refine r_iconst (pc := 44) (2 : Int32) dX10_detach_44 (by decide) ?_
      replace hf := obind hf
      obtain ⟨q19, e20, hf⟩ := hf
      refine q_callV (pc := 45) (v := some (.int q19.1)) (S' := q19.2) mX10_fails 10 [.int (2 : Int32)] dX10_detach_45 kX10_186 fX10_fails iX10_fails ⟨by decide, by decide⟩ rfl rfl rfl (Nat.le_of_ble_eq_true rfl) (og e20) (mc1 := 0) (ms1 := 0) (mc2 := 0) (ms2 := 0) (by decide) (by decide) (C_X10_fails q3 a0 (2 : Int32) q19 e20 (qR_mk _ _)) ?_
      change gW _ _ _ _ (.int q19.1 :: _) _ _ _ _ _
      refine r_ireturn (pc := 48) .int dX10_detach_48 rfl rfl ?_
      cases hf
      exact hk
  · rw [if_neg hc] at hf
    refine r_aload_n (pc := 17) dX10_detach_17 rfl ?_
    refine r_iconst (pc := 18) (1 : Int32) dX10_detach_18 (by decide) ?_
    replace hf := obind hf
    obtain ⟨q21, e22, hf⟩ := hf
    refine q_callV (pc := 19) (v := some (.int q21.1)) (S' := q21.2) mX10_fails 10 [.int (1 : Int32)] dX10_detach_19 kX10_186 fX10_fails iX10_fails ⟨by decide, by decide⟩ rfl rfl rfl (Nat.le_of_ble_eq_true rfl) (og e22) (mc1 := 0) (ms1 := 0) (mc2 := 0) (ms2 := 0) (by decide) (by decide) (C_X10_fails q3 a0 (1 : Int32) q21 e22 (qR_mk _ _)) ?_
    change gW _ _ _ _ (.int q21.1 :: _) _ _ _ _ _
    refine r_ireturn (pc := 22) .int dX10_detach_22 rfl rfl ?_
    cases hf
    exact hk
def F_X10_moveBlock_26 (S : pS) (l0 : Nat) : Option (Int32 × pS) := (F_X10_fails S l0 (1 : Int32)).bind fun q7 => some (q7.1, q7.2)
set_option maxRecDepth 100000 in
set_option maxHeartbeats 4000000 in
theorem W_X10_moveBlock_26 {X : pX} {Q : pO → Nat → pF → Prop} (S : pS) (l0 : Nat) (r : Int32 × pS) (hf : F_X10_moveBlock_26 S l0 = some r) (hk : Q (.inl (some (.int r.1))) r.2.1 r.2.2) : gW X mX10_moveBlock 26 [some (.ref l0), none, none, none, none, none, none, none, none] [] S.1 S.2 Q 0 0 := by
  unfold F_X10_moveBlock_26 at hf
  refine r_aload_n (pc := 26) dX10_moveBlock_26 rfl ?_
  refine r_iconst (pc := 27) (1 : Int32) dX10_moveBlock_27 (by decide) ?_
  replace hf := obind hf
  obtain ⟨q7, e8, hf⟩ := hf
  refine q_callV (pc := 28) (v := some (.int q7.1)) (S' := q7.2) mX10_fails 10 [.int (1 : Int32)] dX10_moveBlock_28 kX10_186 fX10_fails iX10_fails ⟨by decide, by decide⟩ rfl rfl rfl (Nat.le_of_ble_eq_true rfl) (og e8) (mc1 := 0) (ms1 := 0) (mc2 := 0) (ms2 := 0) (by decide) (by decide) (C_X10_fails S l0 (1 : Int32) q7 e8 (qR_mk _ _)) ?_
  change gW _ _ _ _ (.int q7.1 :: _) _ _ _ _ _
  refine r_ireturn (pc := 31) .int dX10_moveBlock_31 rfl rfl ?_
  cases hf
  exact hk
def F_X10_moveBlock_55 (S : pS) (l0 : Nat) : Option (Int32 × pS) := (F_X10_fails S l0 (2 : Int32)).bind fun q13 => some (q13.1, q13.2)
set_option maxRecDepth 100000 in
set_option maxHeartbeats 4000000 in
theorem W_X10_moveBlock_55 {X : pX} {Q : pO → Nat → pF → Prop} (S : pS) (l0 : Nat) (r : Int32 × pS) (hf : F_X10_moveBlock_55 S l0 = some r) (hk : Q (.inl (some (.int r.1))) r.2.1 r.2.2) : gW X mX10_moveBlock 55 [some (.ref l0), none, none, none, none, none, none, none, none] [] S.1 S.2 Q 0 0 := by
  unfold F_X10_moveBlock_55 at hf
  refine r_aload_n (pc := 55) dX10_moveBlock_55 rfl ?_
  refine r_iconst (pc := 56) (2 : Int32) dX10_moveBlock_56 (by decide) ?_
  replace hf := obind hf
  obtain ⟨q13, e14, hf⟩ := hf
  refine q_callV (pc := 57) (v := some (.int q13.1)) (S' := q13.2) mX10_fails 10 [.int (2 : Int32)] dX10_moveBlock_57 kX10_186 fX10_fails iX10_fails ⟨by decide, by decide⟩ rfl rfl rfl (Nat.le_of_ble_eq_true rfl) (og e14) (mc1 := 0) (ms1 := 0) (mc2 := 0) (ms2 := 0) (by decide) (by decide) (C_X10_fails S l0 (2 : Int32) q13 e14 (qR_mk _ _)) ?_
  change gW _ _ _ _ (.int q13.1 :: _) _ _ _ _ _
  refine r_ireturn (pc := 60) .int dX10_moveBlock_60 rfl rfl ?_
  cases hf
  exact hk
abbrev L_X10_moveBlock_110 (l0 : Nat) (l1 : Int32) (l2 : Int32) (l4 : Int32) (l5 : Int32) (l6 : Int32) : Int32 × pS → List (Option Value) := fun a => [some (.ref l0), some (.int l1), some (.int l2), none, some (.int l4), some (.int l5), some (.int l6), some (.int a.1), none]
abbrev s_X10_moveBlock_110 (l0 : Nat) (l1 : Int32) (l2 : Int32) (l4 : Int32) (l5 : Int32) (l6 : Int32) : Int32 × pS → pS := fun a => a.2
abbrev K_X10_moveBlock_110 (X : pX) (Q : pO → Nat → pF → Prop) (mc ms : Nat) (l0 : Nat) (l1 : Int32) (l2 : Int32) (l4 : Int32) (l5 : Int32) (l6 : Int32) : pS → Prop := (fun b => gW X mX10_moveBlock 136 [some (.ref l0), some (.int l1), some (.int l2), none, some (.int l4), some (.int l5), some (.int l6), none, none] [] b.1 b.2 Q mc ms)
def F_X10_moveBlock_110 (l0 : Nat) (l1 : Int32) (l2 : Int32) (l4 : Int32) (l5 : Int32) (l6 : Int32) : Int32 × pS → Option ((Int32 × pS) ⊕ (pS)) := fun a => if l6 ≤ a.1 then (some (.inr a.2)) else ((oGA a.2 l0 10 24).bind fun x25 => (F_X10_pulls a.2 l0 l1 l2).bind fun q27 => (oSI q27.2 x25 .int a.1 q27.1).bind fun S29 => some (.inl (a.1 + (1 : Int32), S29)))
set_option maxRecDepth 100000 in
set_option maxHeartbeats 4000000 in
theorem W_X10_moveBlock_110 {X : pX} {Q : pO → Nat → pF → Prop} {mc ms : Nat} (l0 : Nat) (l1 : Int32) (l2 : Int32) (l4 : Int32) (l5 : Int32) (l6 : Int32) : ∀ (a : Int32 × pS) (r : (Int32 × pS) ⊕ (pS)), F_X10_moveBlock_110 l0 l1 l2 l4 l5 l6 a = some r → Sum.elim (fun a' => gW X mX10_moveBlock 110 (L_X10_moveBlock_110 l0 l1 l2 l4 l5 l6 a') [] (s_X10_moveBlock_110 l0 l1 l2 l4 l5 l6 a').1 (s_X10_moveBlock_110 l0 l1 l2 l4 l5 l6 a').2 Q mc ms) (K_X10_moveBlock_110 X Q mc ms l0 l1 l2 l4 l5 l6) r → gW X mX10_moveBlock 110 (L_X10_moveBlock_110 l0 l1 l2 l4 l5 l6 a) [] (s_X10_moveBlock_110 l0 l1 l2 l4 l5 l6 a).1 (s_X10_moveBlock_110 l0 l1 l2 l4 l5 l6 a).2 Q mc ms := by
  intro a r hf hk
  obtain ⟨l7, S⟩ := a
  unfold F_X10_moveBlock_110 at hf
  try dsimp only at hf
  change gW _ _ _ [some (.ref l0), some (.int l1), some (.int l2), none, some (.int l4), some (.int l5), some (.int l6), some (.int l7), none] _ S.1 S.2 _ _ _
  refine r_iload (pc := 110) dX10_moveBlock_110 rfl ?_
  refine r_iload (pc := 112) dX10_moveBlock_112 rfl ?_
  refine r_icmp_ge (pc := 114) 136 dX10_moveBlock_114 (by decide) (fun hc => ?_) (fun hc => ?_)
  · rw [if_pos hc] at hf
    cases hf
    exact gW.weak (by simp [gle]) hk
  · rw [if_neg hc] at hf
    refine r_aload_n (pc := 117) dX10_moveBlock_117 rfl ?_
    replace hf := obind hf
    obtain ⟨x25, e26, hf⟩ := hf
    refine q_getA (pc := 118) dX10_moveBlock_118 gX10_54 e26 ?_
    refine r_iload (pc := 121) dX10_moveBlock_121 rfl ?_
    refine r_aload_n (pc := 123) dX10_moveBlock_123 rfl ?_
    refine r_iload_n (pc := 124) dX10_moveBlock_124 rfl ?_
    refine r_iload_n (pc := 125) dX10_moveBlock_125 rfl ?_
    replace hf := obind hf
    obtain ⟨q27, e28, hf⟩ := hf
    refine q_callV (pc := 126) (v := some (.int q27.1)) (S' := q27.2) mX10_pulls 10 [.int l1, .int l2] dX10_moveBlock_126 kX10_248 fX10_pulls iX10_pulls ⟨by decide, by decide⟩ rfl rfl rfl (Nat.le_of_ble_eq_true rfl) (og e28) (mc1 := 0) (ms1 := 0) (mc2 := mc) (ms2 := ms) (by omega) (by omega) (C_X10_pulls S l0 l1 l2 q27 e28 (qR_mk _ _)) ?_
    change gW _ _ _ _ (.int q27.1 :: _) _ _ _ _ _
    replace hf := obind hf
    obtain ⟨S29, e30, hf⟩ := hf
    refine q_iast (pc := 129) dX10_moveBlock_129 e30 ?_
    refine r_iinc (pc := 130) dX10_moveBlock_130 rfl (by decide) ?_
    change gW _ _ _ [some (.ref l0), some (.int l1), some (.int l2), none, some (.int l4), some (.int l5), some (.int l6), some (.int (l7 + (1 : Int32))), none] _ _ _ _ _ _
    refine r_goto (pc := 133) 110 dX10_moveBlock_133 (by decide) ?_
    cases hf
    exact gW.weak (by simp [gle]) hk
abbrev L_X10_moveBlock_139 (l0 : Nat) (l4 : Int32) (l5 : Int32) (l6 : Int32) : Int32 × pS → List (Option Value) := fun a => [some (.ref l0), none, none, none, some (.int l4), some (.int l5), some (.int l6), some (.int a.1), none]
abbrev s_X10_moveBlock_139 (l0 : Nat) (l4 : Int32) (l5 : Int32) (l6 : Int32) : Int32 × pS → pS := fun a => a.2
abbrev K_X10_moveBlock_139 (X : pX) (Q : pO → Nat → pF → Prop) (mc ms : Nat) (l0 : Nat) (l4 : Int32) (l5 : Int32) (l6 : Int32) : (Int32 × Int32 × pS) ⊕ (pS) → Prop := (Sum.elim (fun b => gW X mX10_moveBlock 166 [some (.ref l0), none, none, none, some (.int l4), some (.int l5), some (.int l6), some (.int b.1), some (.int b.2.1)] [] b.2.2.1 b.2.2.2 Q mc ms) (fun b => gW X mX10_moveBlock 211 [some (.ref l0), none, none, none, some (.int l4), some (.int l5), some (.int l6), none, none] [] b.1 b.2 Q mc ms))
def F_X10_moveBlock_139 (l0 : Nat) (l4 : Int32) (l5 : Int32) (l6 : Int32) : Int32 × pS → Option ((Int32 × pS) ⊕ ((Int32 × Int32 × pS) ⊕ (pS))) := fun a => if l6 ≤ a.1 then (some (.inr (.inr a.2))) else ((oGA a.2 l0 10 24).bind fun x33 => (oAI a.2 x33 .int a.1).bind fun x35 => (F_X10_reasonFor a.2 l0 x35 l4).bind fun q37 => if q37.1 ≤ 0 then ((oGA q37.2 l0 10 24).bind fun x39 => (oAI q37.2 x39 .int a.1).bind fun x41 => (F_X10_puts q37.2 l0 l4 (l5 + a.1) x41).bind fun q43 => some (.inl (a.1 + (1 : Int32), q43))) else (some (.inr (.inl (a.1, q37.1, q37.2)))))
set_option maxRecDepth 100000 in
set_option maxHeartbeats 4000000 in
theorem W_X10_moveBlock_139 {X : pX} {Q : pO → Nat → pF → Prop} {mc ms : Nat} (l0 : Nat) (l4 : Int32) (l5 : Int32) (l6 : Int32) : ∀ (a : Int32 × pS) (r : (Int32 × pS) ⊕ ((Int32 × Int32 × pS) ⊕ (pS))), F_X10_moveBlock_139 l0 l4 l5 l6 a = some r → Sum.elim (fun a' => gW X mX10_moveBlock 139 (L_X10_moveBlock_139 l0 l4 l5 l6 a') [] (s_X10_moveBlock_139 l0 l4 l5 l6 a').1 (s_X10_moveBlock_139 l0 l4 l5 l6 a').2 Q mc ms) (K_X10_moveBlock_139 X Q mc ms l0 l4 l5 l6) r → gW X mX10_moveBlock 139 (L_X10_moveBlock_139 l0 l4 l5 l6 a) [] (s_X10_moveBlock_139 l0 l4 l5 l6 a).1 (s_X10_moveBlock_139 l0 l4 l5 l6 a).2 Q mc ms := by
  intro a r hf hk
  obtain ⟨l7, S⟩ := a
  unfold F_X10_moveBlock_139 at hf
  try dsimp only at hf
  change gW _ _ _ [some (.ref l0), none, none, none, some (.int l4), some (.int l5), some (.int l6), some (.int l7), none] _ S.1 S.2 _ _ _
  refine r_iload (pc := 139) dX10_moveBlock_139 rfl ?_
  refine r_iload (pc := 141) dX10_moveBlock_141 rfl ?_
  refine r_icmp_ge (pc := 143) 211 dX10_moveBlock_143 (by decide) (fun hc => ?_) (fun hc => ?_)
  · rw [if_pos hc] at hf
    cases hf
    exact gW.weak (by simp [gle]) hk
  · rw [if_neg hc] at hf
    refine r_aload_n (pc := 146) dX10_moveBlock_146 rfl ?_
    refine r_aload_n (pc := 147) dX10_moveBlock_147 rfl ?_
    replace hf := obind hf
    obtain ⟨x33, e34, hf⟩ := hf
    refine q_getA (pc := 148) dX10_moveBlock_148 gX10_54 e34 ?_
    refine r_iload (pc := 151) dX10_moveBlock_151 rfl ?_
    replace hf := obind hf
    obtain ⟨x35, e36, hf⟩ := hf
    refine q_iald (pc := 153) dX10_moveBlock_153 e36 ?_
    refine r_iload (pc := 154) dX10_moveBlock_154 rfl ?_
    replace hf := obind hf
    obtain ⟨q37, e38, hf⟩ := hf
    refine q_callV (pc := 156) (v := some (.int q37.1)) (S' := q37.2) mX10_reasonFor 10 [.int x35, .int l4] dX10_moveBlock_156 kX10_225 fX10_reasonFor iX10_reasonFor ⟨by decide, by decide⟩ rfl rfl rfl (Nat.le_of_ble_eq_true rfl) (og e38) (mc1 := 0) (ms1 := 0) (mc2 := mc) (ms2 := ms) (by omega) (by omega) (C_X10_reasonFor S l0 x35 l4 q37 e38 (qR_mk _ _)) ?_
    change gW _ _ _ _ (.int q37.1 :: _) _ _ _ _ _
    refine r_istore (pc := 159) dX10_moveBlock_159 (by decide) ?_
    change gW _ _ _ [some (.ref l0), none, none, none, some (.int l4), some (.int l5), some (.int l6), some (.int l7), some (.int q37.1)] _ _ _ _ _ _
    refine r_iload (pc := 161) dX10_moveBlock_161 rfl ?_
    refine r_if_le (pc := 163) 187 dX10_moveBlock_163 (by decide) (fun hc => ?_) (fun hc => ?_)
    · rw [if_pos hc] at hf
      refine r_aload_n (pc := 187) dX10_moveBlock_187 rfl ?_
      refine r_iload (pc := 188) dX10_moveBlock_188 rfl ?_
      refine r_iload (pc := 190) dX10_moveBlock_190 rfl ?_
      refine r_iload (pc := 192) dX10_moveBlock_192 rfl ?_
      refine r_iadd (pc := 194) dX10_moveBlock_194 ?_
      refine r_aload_n (pc := 195) dX10_moveBlock_195 rfl ?_
      replace hf := obind hf
      obtain ⟨x39, e40, hf⟩ := hf
      refine q_getA (pc := 196) dX10_moveBlock_196 gX10_54 e40 ?_
      refine r_iload (pc := 199) dX10_moveBlock_199 rfl ?_
      replace hf := obind hf
      obtain ⟨x41, e42, hf⟩ := hf
      refine q_iald (pc := 201) dX10_moveBlock_201 e42 ?_
      replace hf := obind hf
      obtain ⟨q43, e44, hf⟩ := hf
      refine q_callV (pc := 202) (v := none) (S' := q43) mX10_puts 10 [.int l4, .int (l5 + l7), .int x41] dX10_moveBlock_202 kX10_239 fX10_puts iX10_puts ⟨by decide, by decide⟩ rfl rfl rfl (Nat.le_of_ble_eq_true rfl) (og e44) (mc1 := 0) (ms1 := 0) (mc2 := mc) (ms2 := ms) (by omega) (by omega) (C_X10_puts q37.2 l0 l4 (l5 + l7) x41 q43 e44 (qR_mk _ _)) ?_
      refine r_iinc (pc := 205) dX10_moveBlock_205 rfl (by decide) ?_
      change gW _ _ _ [some (.ref l0), none, none, none, some (.int l4), some (.int l5), some (.int l6), some (.int (l7 + (1 : Int32))), some (.int q37.1)] _ _ _ _ _ _
      refine r_goto (pc := 208) 139 dX10_moveBlock_208 (by decide) ?_
      cases hf
      exact gW.weak (by simp [gle]) hk
    · rw [if_neg hc] at hf
      cases hf
      exact gW.weak (by simp [gle]) hk
def F_X10_moveBlock_94 (S : pS) (l0 : Nat) (l1 : Int32) (l2 : Int32) (l4 : Int32) (l5 : Int32) (l6 : Int32) (t0 : Int32) (t1 : Int32) (t2 : Int32) (t3 : Int32) : Option (Int32 × pS) := (F_X10_in S t0 t1 (t2 - t3)).bind fun q23 => if ¬ q23 = 0 then ((iter (F_X10_moveBlock_110 l0 l1 l2 l4 l5 l6) fu ((0 : Int32), S)).bind fun r31 => (iter (F_X10_moveBlock_139 l0 l4 l5 l6) fu ((0 : Int32), r31)).bind fun r45 => Sum.elim (fun q47 => (F_X10_takesBack q47.2.2 l0).bind fun q48 => (F_X10_refuses q48 l0 (30 : Int32) q47.1 q47.2.1).bind fun q50 => (F_X10_fails q50.2 l0 (3 : Int32)).bind fun q52 => some (q52.1, q52.2)) (fun q47 => (F_X10_keeps q47 l0).bind fun q54 => some (l6, q54)) r45) else ((F_X10_fails S l0 (2 : Int32)).bind fun q56 => some (q56.1, q56.2))
set_option maxRecDepth 100000 in
set_option maxHeartbeats 4000000 in
theorem W_X10_moveBlock_94 {X : pX} {Q : pO → Nat → pF → Prop} (S : pS) (l0 : Nat) (l1 : Int32) (l2 : Int32) (l4 : Int32) (l5 : Int32) (l6 : Int32) (t0 : Int32) (t1 : Int32) (t2 : Int32) (t3 : Int32) (r : Int32 × pS) (hf : F_X10_moveBlock_94 S l0 l1 l2 l4 l5 l6 t0 t1 t2 t3 = some r) (hk : Q (.inl (some (.int r.1))) r.2.1 r.2.2) : gW X mX10_moveBlock 94 [some (.ref l0), some (.int l1), some (.int l2), none, some (.int l4), some (.int l5), some (.int l6), none, none] [.int t3, .int t2, .int t1, .int t0] S.1 S.2 Q 0 0 := by
  unfold F_X10_moveBlock_94 at hf
  refine r_isub (pc := 94) dX10_moveBlock_94 ?_
  replace hf := obind hf
  obtain ⟨q23, e24, hf⟩ := hf
  refine q_callS (pc := 95) (v := some (.int q23)) (S' := S) mX10_in [.int t0, .int t1, .int (t2 - t3)] dX10_moveBlock_95 kX10_142 fX10_in sX10_in ⟨by decide, by decide⟩ rfl rfl (Nat.le_of_ble_eq_true rfl) (mc1 := 0) (ms1 := 0) (mc2 := 0) (ms2 := 0) (by decide) (by decide) (C_X10_in S t0 t1 (t2 - t3) q23 e24 (qR_mk _ _)) ?_
  change gW _ _ _ _ (.int q23 :: _) _ _ _ _ _
  refine r_if_ne (pc := 98) 107 dX10_moveBlock_98 (by decide) (fun hc => ?_) (fun hc => ?_)
  · rw [if_pos hc] at hf
    refine r_iconst (pc := 107) (0 : Int32) dX10_moveBlock_107 (by decide) ?_
    refine r_istore (pc := 108) dX10_moveBlock_108 (by decide) ?_
    change gW _ _ _ [some (.ref l0), some (.int l1), some (.int l2), none, some (.int l4), some (.int l5), some (.int l6), some (.int (0 : Int32)), none] _ _ _ _ _ _
    replace hf := obind hf
    obtain ⟨r31, e32, hf⟩ := hf
    refine gW.weak (ls' := [some (.ref l0), some (.int l1), some (.int l2), none, some (.int l4), some (.int l5), some (.int l6), some (.int (0 : Int32)), none]) (by simp [gle]) ?_
    refine g_iter (L := L_X10_moveBlock_110 l0 l1 l2 l4 l5 l6) (s := s_X10_moveBlock_110 l0 l1 l2 l4 l5 l6) (K := K_X10_moveBlock_110 X Q _ _ l0 l1 l2 l4 l5 l6) (W_X10_moveBlock_110 l0 l1 l2 l4 l5 l6) fu ((0 : Int32), S) _ e32 ?_
    show gW _ _ 136 [some (.ref l0), some (.int l1), some (.int l2), none, some (.int l4), some (.int l5), some (.int l6), none, none] [] r31.1 r31.2 _ _ _
    refine r_iconst (pc := 136) (0 : Int32) dX10_moveBlock_136 (by decide) ?_
    refine r_istore (pc := 137) dX10_moveBlock_137 (by decide) ?_
    change gW _ _ _ [some (.ref l0), some (.int l1), some (.int l2), none, some (.int l4), some (.int l5), some (.int l6), some (.int (0 : Int32)), none] _ _ _ _ _ _
    replace hf := obind hf
    obtain ⟨r45, e46, hf⟩ := hf
    refine gW.weak (ls' := [some (.ref l0), none, none, none, some (.int l4), some (.int l5), some (.int l6), some (.int (0 : Int32)), none]) (by simp [gle]) ?_
    refine g_iter (L := L_X10_moveBlock_139 l0 l4 l5 l6) (s := s_X10_moveBlock_139 l0 l4 l5 l6) (K := K_X10_moveBlock_139 X Q _ _ l0 l4 l5 l6) (W_X10_moveBlock_139 l0 l4 l5 l6) fu ((0 : Int32), r31) _ e46 ?_
    rcases r45 with q47 | q47
    · simp only [Sum.elim_inl, Sum.elim_inr] at hf
      show gW _ _ 166 [some (.ref l0), none, none, none, some (.int l4), some (.int l5), some (.int l6), some (.int q47.1), some (.int q47.2.1)] [] q47.2.2.1 q47.2.2.2 _ _ _
      refine r_aload_n (pc := 166) dX10_moveBlock_166 rfl ?_
      replace hf := obind hf
      obtain ⟨q48, e49, hf⟩ := hf
      refine q_callV (pc := 167) (v := none) (S' := q48) mX10_takesBack 10 [] dX10_moveBlock_167 kX10_254 fX10_takesBack iX10_takesBack ⟨by decide, by decide⟩ rfl rfl rfl (Nat.le_of_ble_eq_true rfl) (og e49) (mc1 := 0) (ms1 := 0) (mc2 := 0) (ms2 := 0) (by decide) (by decide) (C_X10_takesBack q47.2.2 l0 q48 e49 (qR_mk _ _)) ?_
      refine r_aload_n (pc := 170) dX10_moveBlock_170 rfl ?_
      refine r_bipush (pc := 171) (30 : Int32) dX10_moveBlock_171 (by decide) ?_
      refine r_iload (pc := 173) dX10_moveBlock_173 rfl ?_
      refine r_iload (pc := 175) dX10_moveBlock_175 rfl ?_
      replace hf := obind hf
      obtain ⟨q50, e51, hf⟩ := hf
      refine q_callV (pc := 177) (v := some (.int q50.1)) (S' := q50.2) mX10_refuses 10 [.int (30 : Int32), .int q47.1, .int q47.2.1] dX10_moveBlock_177 kX10_228 fX10_refuses iX10_refuses ⟨by decide, by decide⟩ rfl rfl rfl (Nat.le_of_ble_eq_true rfl) (og e51) (mc1 := 0) (ms1 := 0) (mc2 := 0) (ms2 := 0) (by decide) (by decide) (C_X10_refuses q48 l0 (30 : Int32) q47.1 q47.2.1 q50 e51 (qR_mk _ _)) ?_
      change gW _ _ _ _ (.int q50.1 :: _) _ _ _ _ _
      refine r_pop (pc := 180) dX10_moveBlock_180 rfl ?_
      refine r_aload_n (pc := 181) dX10_moveBlock_181 rfl ?_
      refine r_iconst (pc := 182) (3 : Int32) dX10_moveBlock_182 (by decide) ?_
      replace hf := obind hf
      obtain ⟨q52, e53, hf⟩ := hf
      refine q_callV (pc := 183) (v := some (.int q52.1)) (S' := q52.2) mX10_fails 10 [.int (3 : Int32)] dX10_moveBlock_183 kX10_186 fX10_fails iX10_fails ⟨by decide, by decide⟩ rfl rfl rfl (Nat.le_of_ble_eq_true rfl) (og e53) (mc1 := 0) (ms1 := 0) (mc2 := 0) (ms2 := 0) (by decide) (by decide) (C_X10_fails q50.2 l0 (3 : Int32) q52 e53 (qR_mk _ _)) ?_
      change gW _ _ _ _ (.int q52.1 :: _) _ _ _ _ _
      refine r_ireturn (pc := 186) .int dX10_moveBlock_186 rfl rfl ?_
      cases hf
      exact hk
    · simp only [Sum.elim_inl, Sum.elim_inr] at hf
      show gW _ _ 211 [some (.ref l0), none, none, none, some (.int l4), some (.int l5), some (.int l6), none, none] [] q47.1 q47.2 _ _ _
      refine r_aload_n (pc := 211) dX10_moveBlock_211 rfl ?_
      replace hf := obind hf
      obtain ⟨q54, e55, hf⟩ := hf
      refine q_callV (pc := 212) (v := none) (S' := q54) mX10_keeps 10 [] dX10_moveBlock_212 kX10_242 fX10_keeps iX10_keeps ⟨by decide, by decide⟩ rfl rfl rfl (Nat.le_of_ble_eq_true rfl) (og e55) (mc1 := 0) (ms1 := 0) (mc2 := 0) (ms2 := 0) (by decide) (by decide) (C_X10_keeps q47 l0 q54 e55 (qR_mk _ _)) ?_
      refine r_iload (pc := 215) dX10_moveBlock_215 rfl ?_
      refine r_ireturn (pc := 217) .int dX10_moveBlock_217 rfl rfl ?_
      cases hf
      exact hk
  · rw [if_neg hc] at hf
    refine r_aload_n (pc := 101) dX10_moveBlock_101 rfl ?_
    refine r_iconst (pc := 102) (2 : Int32) dX10_moveBlock_102 (by decide) ?_
    replace hf := obind hf
    obtain ⟨q56, e57, hf⟩ := hf
    refine q_callV (pc := 103) (v := some (.int q56.1)) (S' := q56.2) mX10_fails 10 [.int (2 : Int32)] dX10_moveBlock_103 kX10_186 fX10_fails iX10_fails ⟨by decide, by decide⟩ rfl rfl rfl (Nat.le_of_ble_eq_true rfl) (og e57) (mc1 := 0) (ms1 := 0) (mc2 := 0) (ms2 := 0) (by decide) (by decide) (C_X10_fails S l0 (2 : Int32) q56 e57 (qR_mk _ _)) ?_
    change gW _ _ _ _ (.int q56.1 :: _) _ _ _ _ _
    refine r_ireturn (pc := 106) .int dX10_moveBlock_106 rfl rfl ?_
    cases hf
    exact hk
def F_X10_moveBlock (S : pS) (a0 : Nat) (a1 : Int32) (a2 : Int32) (a3 : Int32) (a4 : Int32) (a5 : Int32) : Option (Int32 × pS) := (oF S a0 10).bind fun _ => (oPI S a0 10 0 (0 : Int32)).bind fun S1 => (F_X10_remembers S1 a0).bind fun q3 => (F_X10_isItem q3 a0 a1).bind fun q5 => if q5 = 0 then (F_X10_moveBlock_26 q3 a0) else ((F_X10_isItem q3 a0 a4).bind fun q9 => if ¬ q9 = 0 then ((F_X10_in q3 a2 (0 : Int32) a3).bind fun q11 => if q11 = 0 then (F_X10_moveBlock_55 q3 a0) else ((oGA q3 a0 10 1).bind fun x15 => (oAI q3 x15 .int ((916 : Int32) + a1)).bind fun x17 => if a3 < x17 then ((oGA q3 a0 10 1).bind fun x19 => (oAI q3 x19 .int ((916 : Int32) + a4)).bind fun x21 => if ¬ a4 = a1 then (F_X10_moveBlock_94 q3 a0 a1 a2 a4 a5 ((a3 - a2) + (1 : Int32)) a5 (0 : Int32) x21 (0 : Int32)) else (F_X10_moveBlock_94 q3 a0 a1 a2 a4 a5 ((a3 - a2) + (1 : Int32)) a5 (0 : Int32) x21 ((a3 - a2) + (1 : Int32)))) else (F_X10_moveBlock_55 q3 a0))) else (F_X10_moveBlock_26 q3 a0))
set_option maxRecDepth 100000 in
set_option maxHeartbeats 4000000 in
theorem C_X10_moveBlock {X : pX} {Q : pO → Nat → pF → Prop} (S : pS) (a0 : Nat) (a1 : Int32) (a2 : Int32) (a3 : Int32) (a4 : Int32) (a5 : Int32) (r : Int32 × pS) (hf : F_X10_moveBlock S a0 a1 a2 a3 a4 a5 = some r) (hk : Q (.inl (some (.int r.1))) r.2.1 r.2.2) : gC X mX10_moveBlock [.ref a0, .int a1, .int a2, .int a3, .int a4, .int a5] S.1 S.2 Q 0 0 := by
  refine gC_of (by decide) (Nat.le_of_ble_eq_true rfl) rfl ?_
  change gW _ _ _ [some (.ref a0), some (.int a1), some (.int a2), some (.int a3), some (.int a4), some (.int a5), none, none, none] _ _ _ _ _ _
  unfold F_X10_moveBlock at hf
  obtain ⟨_, _, hf⟩ := obind hf
  refine r_aload_n (pc := 0) dX10_moveBlock_0 rfl ?_
  refine r_iconst (pc := 1) (0 : Int32) dX10_moveBlock_1 (by decide) ?_
  replace hf := obind hf
  obtain ⟨S1, e2, hf⟩ := hf
  refine q_putI (pc := 2) dX10_moveBlock_2 pX10_139 rfl e2 ?_
  refine r_aload_n (pc := 5) dX10_moveBlock_5 rfl ?_
  replace hf := obind hf
  obtain ⟨q3, e4, hf⟩ := hf
  refine q_callV (pc := 6) (v := none) (S' := q3) mX10_remembers 10 [] dX10_moveBlock_6 kX10_218 fX10_remembers iX10_remembers ⟨by decide, by decide⟩ rfl rfl rfl (Nat.le_of_ble_eq_true rfl) (og e4) (mc1 := 0) (ms1 := 0) (mc2 := 0) (ms2 := 0) (by decide) (by decide) (C_X10_remembers S1 a0 q3 e4 (qR_mk _ _)) ?_
  refine r_aload_n (pc := 9) dX10_moveBlock_9 rfl ?_
  refine r_iload_n (pc := 10) dX10_moveBlock_10 rfl ?_
  replace hf := obind hf
  obtain ⟨q5, e6, hf⟩ := hf
  refine q_callV (pc := 11) (v := some (.int q5)) (S' := q3) mX10_isItem 10 [.int a1] dX10_moveBlock_11 kX10_146 fX10_isItem iX10_isItem ⟨by decide, by decide⟩ rfl rfl rfl (Nat.le_of_ble_eq_true rfl) (og e6) (mc1 := 0) (ms1 := 0) (mc2 := 0) (ms2 := 0) (by decide) (by decide) (C_X10_isItem q3 a0 a1 q5 e6 (qR_mk _ _)) ?_
  change gW _ _ _ _ (.int q5 :: _) _ _ _ _ _
  refine r_if_eq (pc := 14) 26 dX10_moveBlock_14 (by decide) (fun hc => ?_) (fun hc => ?_)
  · rw [if_pos hc] at hf
    refine gW.mono (mc := 0) (ms := 0) ?_ (fun _ _ _ q => q) (by decide) (by decide)
    exact gW.weak (by simp [gle]) (W_X10_moveBlock_26 q3 a0 r hf hk)
  · rw [if_neg hc] at hf
    refine r_aload_n (pc := 17) dX10_moveBlock_17 rfl ?_
    refine r_iload (pc := 18) dX10_moveBlock_18 rfl ?_
    replace hf := obind hf
    obtain ⟨q9, e10, hf⟩ := hf
    refine q_callV (pc := 20) (v := some (.int q9)) (S' := q3) mX10_isItem 10 [.int a4] dX10_moveBlock_20 kX10_146 fX10_isItem iX10_isItem ⟨by decide, by decide⟩ rfl rfl rfl (Nat.le_of_ble_eq_true rfl) (og e10) (mc1 := 0) (ms1 := 0) (mc2 := 0) (ms2 := 0) (by decide) (by decide) (C_X10_isItem q3 a0 a4 q9 e10 (qR_mk _ _)) ?_
    change gW _ _ _ _ (.int q9 :: _) _ _ _ _ _
    refine r_if_ne (pc := 23) 32 dX10_moveBlock_23 (by decide) (fun hc => ?_) (fun hc => ?_)
    · rw [if_pos hc] at hf
      refine r_iload_n (pc := 32) dX10_moveBlock_32 rfl ?_
      refine r_iconst (pc := 33) (0 : Int32) dX10_moveBlock_33 (by decide) ?_
      refine r_iload_n (pc := 34) dX10_moveBlock_34 rfl ?_
      replace hf := obind hf
      obtain ⟨q11, e12, hf⟩ := hf
      refine q_callS (pc := 35) (v := some (.int q11)) (S' := q3) mX10_in [.int a2, .int (0 : Int32), .int a3] dX10_moveBlock_35 kX10_142 fX10_in sX10_in ⟨by decide, by decide⟩ rfl rfl (Nat.le_of_ble_eq_true rfl) (mc1 := 0) (ms1 := 0) (mc2 := 0) (ms2 := 0) (by decide) (by decide) (C_X10_in q3 a2 (0 : Int32) a3 q11 e12 (qR_mk _ _)) ?_
      change gW _ _ _ _ (.int q11 :: _) _ _ _ _ _
      refine r_if_eq (pc := 38) 55 dX10_moveBlock_38 (by decide) (fun hc => ?_) (fun hc => ?_)
      · rw [if_pos hc] at hf
        refine gW.mono (mc := 0) (ms := 0) ?_ (fun _ _ _ q => q) (by decide) (by decide)
        exact gW.weak (by simp [gle]) (W_X10_moveBlock_55 q3 a0 r hf hk)
      · rw [if_neg hc] at hf
        refine r_iload_n (pc := 41) dX10_moveBlock_41 rfl ?_
        refine r_aload_n (pc := 42) dX10_moveBlock_42 rfl ?_
        replace hf := obind hf
        obtain ⟨x15, e16, hf⟩ := hf
        refine q_getA (pc := 43) dX10_moveBlock_43 gX10_7 e16 ?_
        refine r_sipush (pc := 46) (916 : Int32) dX10_moveBlock_46 (by decide) ?_
        refine r_iload_n (pc := 49) dX10_moveBlock_49 rfl ?_
        refine r_iadd (pc := 50) dX10_moveBlock_50 ?_
        replace hf := obind hf
        obtain ⟨x17, e18, hf⟩ := hf
        refine q_iald (pc := 51) dX10_moveBlock_51 e18 ?_
        refine r_icmp_lt (pc := 52) 61 dX10_moveBlock_52 (by decide) (fun hc => ?_) (fun hc => ?_)
        · rw [if_pos hc] at hf
          refine r_iload_n (pc := 61) dX10_moveBlock_61 rfl ?_
          refine r_iload_n (pc := 62) dX10_moveBlock_62 rfl ?_
          refine r_isub (pc := 63) dX10_moveBlock_63 ?_
          refine r_iconst (pc := 64) (1 : Int32) dX10_moveBlock_64 (by decide) ?_
          refine r_iadd (pc := 65) dX10_moveBlock_65 ?_
          refine r_istore (pc := 66) dX10_moveBlock_66 (by decide) ?_
          change gW _ _ _ [some (.ref a0), some (.int a1), some (.int a2), some (.int a3), some (.int a4), some (.int a5), some (.int ((a3 - a2) + (1 : Int32))), none, none] _ _ _ _ _ _
          refine r_iload (pc := 68) dX10_moveBlock_68 rfl ?_
          refine r_iconst (pc := 70) (0 : Int32) dX10_moveBlock_70 (by decide) ?_
          refine r_aload_n (pc := 71) dX10_moveBlock_71 rfl ?_
          replace hf := obind hf
          obtain ⟨x19, e20, hf⟩ := hf
          refine q_getA (pc := 72) dX10_moveBlock_72 gX10_7 e20 ?_
          refine r_sipush (pc := 75) (916 : Int32) dX10_moveBlock_75 (by decide) ?_
          refine r_iload (pc := 78) dX10_moveBlock_78 rfl ?_
          refine r_iadd (pc := 80) dX10_moveBlock_80 ?_
          replace hf := obind hf
          obtain ⟨x21, e22, hf⟩ := hf
          refine q_iald (pc := 81) dX10_moveBlock_81 e22 ?_
          refine r_iload (pc := 82) dX10_moveBlock_82 rfl ?_
          refine r_iload_n (pc := 84) dX10_moveBlock_84 rfl ?_
          refine r_icmp_ne (pc := 85) 93 dX10_moveBlock_85 (by decide) (fun hc => ?_) (fun hc => ?_)
          · rw [if_pos hc] at hf
            refine r_iconst (pc := 93) (0 : Int32) dX10_moveBlock_93 (by decide) ?_
            refine gW.mono (mc := 0) (ms := 0) ?_ (fun _ _ _ q => q) (by decide) (by decide)
            exact gW.weak (by simp [gle]) (W_X10_moveBlock_94 q3 a0 a1 a2 a4 a5 ((a3 - a2) + (1 : Int32)) a5 (0 : Int32) x21 (0 : Int32) r hf hk)
          · rw [if_neg hc] at hf
            refine r_iload (pc := 88) dX10_moveBlock_88 rfl ?_
            refine r_goto (pc := 90) 94 dX10_moveBlock_90 (by decide) ?_
            refine gW.mono (mc := 0) (ms := 0) ?_ (fun _ _ _ q => q) (by decide) (by decide)
            exact gW.weak (by simp [gle]) (W_X10_moveBlock_94 q3 a0 a1 a2 a4 a5 ((a3 - a2) + (1 : Int32)) a5 (0 : Int32) x21 ((a3 - a2) + (1 : Int32)) r hf hk)
        · rw [if_neg hc] at hf
          refine gW.mono (mc := 0) (ms := 0) ?_ (fun _ _ _ q => q) (by decide) (by decide)
          exact gW.weak (by simp [gle]) (W_X10_moveBlock_55 q3 a0 r hf hk)
    · rw [if_neg hc] at hf
      refine gW.mono (mc := 0) (ms := 0) ?_ (fun _ _ _ q => q) (by decide) (by decide)
      exact gW.weak (by simp [gle]) (W_X10_moveBlock_26 q3 a0 r hf hk)
def F_X10_moves_65 (S : pS) (l0 : Nat) (l3 : Int32) (l6 : Int32) (t0 : Nat) (t1 : Int32) (t2 : Int32) : Option (Int32 × pS) := (F_X10_puts S t0 t1 t2 l6).bind fun q5 => (F_X10_keeps q5 l0).bind fun q7 => some (l3, q7)
set_option maxRecDepth 100000 in
set_option maxHeartbeats 4000000 in
theorem W_X10_moves_65 {X : pX} {Q : pO → Nat → pF → Prop} (S : pS) (l0 : Nat) (l3 : Int32) (l6 : Int32) (t0 : Nat) (t1 : Int32) (t2 : Int32) (r : Int32 × pS) (hf : F_X10_moves_65 S l0 l3 l6 t0 t1 t2 = some r) (hk : Q (.inl (some (.int r.1))) r.2.1 r.2.2) : gW X mX10_moves 65 [some (.ref l0), none, none, some (.int l3), none, none, some (.int l6), none] [.int t2, .int t1, .ref t0] S.1 S.2 Q 0 0 := by
  unfold F_X10_moves_65 at hf
  refine r_iload (pc := 65) dX10_moves_65 rfl ?_
  replace hf := obind hf
  obtain ⟨q5, e6, hf⟩ := hf
  refine q_callV (pc := 67) (v := none) (S' := q5) mX10_puts 10 [.int t1, .int t2, .int l6] dX10_moves_67 kX10_239 fX10_puts iX10_puts ⟨by decide, by decide⟩ rfl rfl rfl (Nat.le_of_ble_eq_true rfl) (og e6) (mc1 := 0) (ms1 := 0) (mc2 := 0) (ms2 := 0) (by decide) (by decide) (C_X10_puts S t0 t1 t2 l6 q5 e6 (qR_mk _ _)) ?_
  refine r_aload_n (pc := 70) dX10_moves_70 rfl ?_
  replace hf := obind hf
  obtain ⟨q7, e8, hf⟩ := hf
  refine q_callV (pc := 71) (v := none) (S' := q7) mX10_keeps 10 [] dX10_moves_71 kX10_242 fX10_keeps iX10_keeps ⟨by decide, by decide⟩ rfl rfl rfl (Nat.le_of_ble_eq_true rfl) (og e8) (mc1 := 0) (ms1 := 0) (mc2 := 0) (ms2 := 0) (by decide) (by decide) (C_X10_keeps q5 l0 q7 e8 (qR_mk _ _)) ?_
  refine r_iload_n (pc := 74) dX10_moves_74 rfl ?_
  refine r_ireturn (pc := 75) .int dX10_moves_75 rfl rfl ?_
  cases hf
  exact hk
def F_X10_moves (S : pS) (a0 : Nat) (a1 : Int32) (a2 : Int32) (a3 : Int32) (a4 : Int32) (a5 : Int32) : Option (Int32 × pS) := (oF S a0 10).bind fun _ => (F_X10_pulls S a0 a1 a2).bind fun q1 => (F_X10_reasonFor q1.2 a0 q1.1 a3).bind fun q3 => if q3.1 ≤ 0 then (if ¬ a4 = (-1 : Int32) then (F_X10_moves_65 q3.2 a0 a3 q1.1 a0 a3 a4) else ((oGA q3.2 a0 10 1).bind fun x9 => (oAI q3.2 x9 .int ((916 : Int32) + a3)).bind fun x11 => F_X10_moves_65 q3.2 a0 a3 q1.1 a0 a3 x11)) else ((F_X10_takesBack q3.2 a0).bind fun q13 => (F_X10_refuses q13 a0 a5 (-1 : Int32) q3.1).bind fun q15 => (F_X10_fails q15.2 a0 (3 : Int32)).bind fun q17 => some (q17.1, q17.2))
set_option maxRecDepth 100000 in
set_option maxHeartbeats 4000000 in
theorem C_X10_moves {X : pX} {Q : pO → Nat → pF → Prop} (S : pS) (a0 : Nat) (a1 : Int32) (a2 : Int32) (a3 : Int32) (a4 : Int32) (a5 : Int32) (r : Int32 × pS) (hf : F_X10_moves S a0 a1 a2 a3 a4 a5 = some r) (hk : Q (.inl (some (.int r.1))) r.2.1 r.2.2) : gC X mX10_moves [.ref a0, .int a1, .int a2, .int a3, .int a4, .int a5] S.1 S.2 Q 0 0 := by
  refine gC_of (by decide) (Nat.le_of_ble_eq_true rfl) rfl ?_
  change gW _ _ _ [some (.ref a0), some (.int a1), some (.int a2), some (.int a3), some (.int a4), some (.int a5), none, none] _ _ _ _ _ _
  unfold F_X10_moves at hf
  obtain ⟨_, _, hf⟩ := obind hf
  refine r_aload_n (pc := 0) dX10_moves_0 rfl ?_
  refine r_iload_n (pc := 1) dX10_moves_1 rfl ?_
  refine r_iload_n (pc := 2) dX10_moves_2 rfl ?_
  replace hf := obind hf
  obtain ⟨q1, e2, hf⟩ := hf
  refine q_callV (pc := 3) (v := some (.int q1.1)) (S' := q1.2) mX10_pulls 10 [.int a1, .int a2] dX10_moves_3 kX10_248 fX10_pulls iX10_pulls ⟨by decide, by decide⟩ rfl rfl rfl (Nat.le_of_ble_eq_true rfl) (og e2) (mc1 := 0) (ms1 := 0) (mc2 := 0) (ms2 := 0) (by decide) (by decide) (C_X10_pulls S a0 a1 a2 q1 e2 (qR_mk _ _)) ?_
  change gW _ _ _ _ (.int q1.1 :: _) _ _ _ _ _
  refine r_istore (pc := 6) dX10_moves_6 (by decide) ?_
  change gW _ _ _ [some (.ref a0), some (.int a1), some (.int a2), some (.int a3), some (.int a4), some (.int a5), some (.int q1.1), none] _ _ _ _ _ _
  refine r_aload_n (pc := 8) dX10_moves_8 rfl ?_
  refine r_iload (pc := 9) dX10_moves_9 rfl ?_
  refine r_iload_n (pc := 11) dX10_moves_11 rfl ?_
  replace hf := obind hf
  obtain ⟨q3, e4, hf⟩ := hf
  refine q_callV (pc := 12) (v := some (.int q3.1)) (S' := q3.2) mX10_reasonFor 10 [.int q1.1, .int a3] dX10_moves_12 kX10_225 fX10_reasonFor iX10_reasonFor ⟨by decide, by decide⟩ rfl rfl rfl (Nat.le_of_ble_eq_true rfl) (og e4) (mc1 := 0) (ms1 := 0) (mc2 := 0) (ms2 := 0) (by decide) (by decide) (C_X10_reasonFor q1.2 a0 q1.1 a3 q3 e4 (qR_mk _ _)) ?_
  change gW _ _ _ _ (.int q3.1 :: _) _ _ _ _ _
  refine r_istore (pc := 15) dX10_moves_15 (by decide) ?_
  change gW _ _ _ [some (.ref a0), some (.int a1), some (.int a2), some (.int a3), some (.int a4), some (.int a5), some (.int q1.1), some (.int q3.1)] _ _ _ _ _ _
  refine r_iload (pc := 17) dX10_moves_17 rfl ?_
  refine r_if_le (pc := 19) 42 dX10_moves_19 (by decide) (fun hc => ?_) (fun hc => ?_)
  · rw [if_pos hc] at hf
    refine r_aload_n (pc := 42) dX10_moves_42 rfl ?_
    refine r_iload_n (pc := 43) dX10_moves_43 rfl ?_
    refine r_iload (pc := 44) dX10_moves_44 rfl ?_
    refine r_iconst (pc := 46) (-1 : Int32) dX10_moves_46 (by decide) ?_
    refine r_icmp_ne (pc := 47) 63 dX10_moves_47 (by decide) (fun hc => ?_) (fun hc => ?_)
    · rw [if_pos hc] at hf
      refine r_iload (pc := 63) dX10_moves_63 rfl ?_
      refine gW.mono (mc := 0) (ms := 0) ?_ (fun _ _ _ q => q) (by decide) (by decide)
      exact gW.weak (by simp [gle]) (W_X10_moves_65 q3.2 a0 a3 q1.1 a0 a3 a4 r hf hk)
    · rw [if_neg hc] at hf
      refine r_aload_n (pc := 50) dX10_moves_50 rfl ?_
      replace hf := obind hf
      obtain ⟨x9, e10, hf⟩ := hf
      refine q_getA (pc := 51) dX10_moves_51 gX10_7 e10 ?_
      refine r_sipush (pc := 54) (916 : Int32) dX10_moves_54 (by decide) ?_
      refine r_iload_n (pc := 57) dX10_moves_57 rfl ?_
      refine r_iadd (pc := 58) dX10_moves_58 ?_
      replace hf := obind hf
      obtain ⟨x11, e12, hf⟩ := hf
      refine q_iald (pc := 59) dX10_moves_59 e12 ?_
      refine r_goto (pc := 60) 65 dX10_moves_60 (by decide) ?_
      refine gW.mono (mc := 0) (ms := 0) ?_ (fun _ _ _ q => q) (by decide) (by decide)
      exact gW.weak (by simp [gle]) (W_X10_moves_65 q3.2 a0 a3 q1.1 a0 a3 x11 r hf hk)
  · rw [if_neg hc] at hf
    refine r_aload_n (pc := 22) dX10_moves_22 rfl ?_
    replace hf := obind hf
    obtain ⟨q13, e14, hf⟩ := hf
    refine q_callV (pc := 23) (v := none) (S' := q13) mX10_takesBack 10 [] dX10_moves_23 kX10_254 fX10_takesBack iX10_takesBack ⟨by decide, by decide⟩ rfl rfl rfl (Nat.le_of_ble_eq_true rfl) (og e14) (mc1 := 0) (ms1 := 0) (mc2 := 0) (ms2 := 0) (by decide) (by decide) (C_X10_takesBack q3.2 a0 q13 e14 (qR_mk _ _)) ?_
    refine r_aload_n (pc := 26) dX10_moves_26 rfl ?_
    refine r_iload (pc := 27) dX10_moves_27 rfl ?_
    refine r_iconst (pc := 29) (-1 : Int32) dX10_moves_29 (by decide) ?_
    refine r_iload (pc := 30) dX10_moves_30 rfl ?_
    replace hf := obind hf
    obtain ⟨q15, e16, hf⟩ := hf
    refine q_callV (pc := 32) (v := some (.int q15.1)) (S' := q15.2) mX10_refuses 10 [.int a5, .int (-1 : Int32), .int q3.1] dX10_moves_32 kX10_228 fX10_refuses iX10_refuses ⟨by decide, by decide⟩ rfl rfl rfl (Nat.le_of_ble_eq_true rfl) (og e16) (mc1 := 0) (ms1 := 0) (mc2 := 0) (ms2 := 0) (by decide) (by decide) (C_X10_refuses q13 a0 a5 (-1 : Int32) q3.1 q15 e16 (qR_mk _ _)) ?_
    change gW _ _ _ _ (.int q15.1 :: _) _ _ _ _ _
    refine r_pop (pc := 35) dX10_moves_35 rfl ?_
    refine r_aload_n (pc := 36) dX10_moves_36 rfl ?_
    refine r_iconst (pc := 37) (3 : Int32) dX10_moves_37 (by decide) ?_
    replace hf := obind hf
    obtain ⟨q17, e18, hf⟩ := hf
    refine q_callV (pc := 38) (v := some (.int q17.1)) (S' := q17.2) mX10_fails 10 [.int (3 : Int32)] dX10_moves_38 kX10_186 fX10_fails iX10_fails ⟨by decide, by decide⟩ rfl rfl rfl (Nat.le_of_ble_eq_true rfl) (og e18) (mc1 := 0) (ms1 := 0) (mc2 := 0) (ms2 := 0) (by decide) (by decide) (C_X10_fails q15.2 a0 (3 : Int32) q17 e18 (qR_mk _ _)) ?_
    change gW _ _ _ _ (.int q17.1 :: _) _ _ _ _ _
    refine r_ireturn (pc := 41) .int dX10_moves_41 rfl rfl ?_
    cases hf
    exact hk
def F_X10_isOfFamily_14 (S : pS) : Option (Int32) := some (1 : Int32)
set_option maxRecDepth 100000 in
set_option maxHeartbeats 4000000 in
theorem W_X10_isOfFamily_14 {X : pX} {Q : pO → Nat → pF → Prop} (S : pS) (r : Int32) (hf : F_X10_isOfFamily_14 S = some r) (hk : Q (.inl (some (.int r))) S.1 S.2) : gW X mX10_isOfFamily 14 [none, none, none] [] S.1 S.2 Q 0 0 := by
  unfold F_X10_isOfFamily_14 at hf
  refine r_iconst (pc := 14) (1 : Int32) dX10_isOfFamily_14 (by decide) ?_
  refine r_goto (pc := 15) 19 dX10_isOfFamily_15 (by decide) ?_
  refine r_ireturn (pc := 19) .boolean dX10_isOfFamily_19 rfl rfl ?_
  cases hf
  exact hk
def F_X10_isOfFamily (S : pS) (a0 : Nat) (a1 : Int32) (a2 : Int32) : Option (Int32) := (oF S a0 10).bind fun _ => if a1 = a2 then (F_X10_isOfFamily_14 S) else ((F_X10_isUnder S a0 a1 a2).bind fun q1 => if q1 = 0 then (some (0 : Int32)) else (F_X10_isOfFamily_14 S))
set_option maxRecDepth 100000 in
set_option maxHeartbeats 4000000 in
theorem C_X10_isOfFamily {X : pX} {Q : pO → Nat → pF → Prop} (S : pS) (a0 : Nat) (a1 : Int32) (a2 : Int32) (r : Int32) (hf : F_X10_isOfFamily S a0 a1 a2 = some r) (hk : Q (.inl (some (.int r))) S.1 S.2) : gC X mX10_isOfFamily [.ref a0, .int a1, .int a2] S.1 S.2 Q 0 0 := by
  refine gC_of (by decide) (Nat.le_of_ble_eq_true rfl) rfl ?_
  change gW _ _ _ [some (.ref a0), some (.int a1), some (.int a2)] _ _ _ _ _ _
  unfold F_X10_isOfFamily at hf
  obtain ⟨_, _, hf⟩ := obind hf
  refine r_iload_n (pc := 0) dX10_isOfFamily_0 rfl ?_
  refine r_iload_n (pc := 1) dX10_isOfFamily_1 rfl ?_
  refine r_icmp_eq (pc := 2) 14 dX10_isOfFamily_2 (by decide) (fun hc => ?_) (fun hc => ?_)
  · rw [if_pos hc] at hf
    refine gW.mono (mc := 0) (ms := 0) ?_ (fun _ _ _ q => q) (by decide) (by decide)
    exact gW.weak (by simp [gle]) (W_X10_isOfFamily_14 S r hf hk)
  · rw [if_neg hc] at hf
    refine r_aload_n (pc := 5) dX10_isOfFamily_5 rfl ?_
    refine r_iload_n (pc := 6) dX10_isOfFamily_6 rfl ?_
    refine r_iload_n (pc := 7) dX10_isOfFamily_7 rfl ?_
    replace hf := obind hf
    obtain ⟨q1, e2, hf⟩ := hf
    refine q_callV (pc := 8) (v := some (.int q1)) (S' := S) mX10_isUnder 10 [.int a1, .int a2] dX10_isOfFamily_8 kX10_175 fX10_isUnder iX10_isUnder ⟨by decide, by decide⟩ rfl rfl rfl (Nat.le_of_ble_eq_true rfl) (og e2) (mc1 := 0) (ms1 := 0) (mc2 := 0) (ms2 := 0) (by decide) (by decide) (C_X10_isUnder S a0 a1 a2 q1 e2 (qR_mk _ _)) ?_
    change gW _ _ _ _ (.int q1 :: _) _ _ _ _ _
    refine r_if_eq (pc := 11) 18 dX10_isOfFamily_11 (by decide) (fun hc => ?_) (fun hc => ?_)
    · rw [if_pos hc] at hf
      refine r_iconst (pc := 18) (0 : Int32) dX10_isOfFamily_18 (by decide) ?_
      refine r_ireturn (pc := 19) .boolean dX10_isOfFamily_19 rfl rfl ?_
      cases hf
      exact hk
    · rw [if_neg hc] at hf
      refine gW.mono (mc := 0) (ms := 0) ?_ (fun _ _ _ q => q) (by decide) (by decide)
      exact gW.weak (by simp [gle]) (W_X10_isOfFamily_14 S r hf hk)
abbrev L_X10_familyOf_20 (l0 : Nat) (l1 : Int32) (l2 : Int32) (S : pS) : Int32 × Int32 × Int32 × Int32 × Int32 × Int32 × Int32 → List (Option Value) := fun a => [some (.ref l0), some (.int l1), some (.int l2), some (.int a.1), some (.int a.2.1), some (.int a.2.2.1), some (.int a.2.2.2.1), some (.int a.2.2.2.2.1), some (.int a.2.2.2.2.2.1), some (.int a.2.2.2.2.2.2), none, none]
abbrev s_X10_familyOf_20 (l0 : Nat) (l1 : Int32) (l2 : Int32) (S : pS) : Int32 × Int32 × Int32 × Int32 × Int32 × Int32 × Int32 → pS := fun a => S
abbrev K_X10_familyOf_20 (X : pX) (Q : pO → Nat → pF → Prop) (mc ms : Nat) (l0 : Nat) (l1 : Int32) (l2 : Int32) (S : pS) : Int32 × Int32 × Int32 × Int32 × Int32 × Int32 → Prop := (fun b => gW X mX10_familyOf 190 [some (.ref l0), some (.int l1), some (.int l2), some (.int b.1), some (.int b.2.1), some (.int b.2.2.1), some (.int b.2.2.2.1), some (.int b.2.2.2.2.1), some (.int b.2.2.2.2.2), none, none, none] [] S.1 S.2 Q mc ms)
def F_X10_familyOf_180 (l0 : Nat) (l1 : Int32) (l2 : Int32) (S : pS) (l3 : Int32) (l4 : Int32) (l5 : Int32) (l6 : Int32) (l7 : Int32) (l9 : Int32) (t0 : Int32) : Option ((Int32 × Int32 × Int32 × Int32 × Int32 × Int32 × Int32) ⊕ (Int32 × Int32 × Int32 × Int32 × Int32 × Int32)) := some (.inl (l3, l4, l5, l6, l7, t0 + (0 : Int32), l9 + (1 : Int32)))
set_option maxRecDepth 100000 in
set_option maxHeartbeats 4000000 in
theorem W_X10_familyOf_180 {X : pX} {Q : pO → Nat → pF → Prop} {mc ms : Nat} (l0 : Nat) (l1 : Int32) (l2 : Int32) (S : pS) (l3 : Int32) (l4 : Int32) (l5 : Int32) (l6 : Int32) (l7 : Int32) (l9 : Int32) (t0 : Int32) (r : (Int32 × Int32 × Int32 × Int32 × Int32 × Int32 × Int32) ⊕ (Int32 × Int32 × Int32 × Int32 × Int32 × Int32)) (hf : F_X10_familyOf_180 l0 l1 l2 S l3 l4 l5 l6 l7 l9 t0 = some r) (hk : Sum.elim (fun a' => gW X mX10_familyOf 20 (L_X10_familyOf_20 l0 l1 l2 S a') [] (s_X10_familyOf_20 l0 l1 l2 S a').1 (s_X10_familyOf_20 l0 l1 l2 S a').2 Q mc ms) (K_X10_familyOf_20 X Q mc ms l0 l1 l2 S) r) : gW X mX10_familyOf 180 [some (.ref l0), some (.int l1), some (.int l2), some (.int l3), some (.int l4), some (.int l5), some (.int l6), some (.int l7), none, some (.int l9), none, none] [.int t0] S.1 S.2 Q mc ms := by
  unfold F_X10_familyOf_180 at hf
  refine r_iconst (pc := 180) (0 : Int32) dX10_familyOf_180 (by decide) ?_
  refine r_iadd (pc := 181) dX10_familyOf_181 ?_
  refine r_istore (pc := 182) dX10_familyOf_182 (by decide) ?_
  change gW _ _ _ [some (.ref l0), some (.int l1), some (.int l2), some (.int l3), some (.int l4), some (.int l5), some (.int l6), some (.int l7), some (.int (t0 + (0 : Int32))), some (.int l9), none, none] _ _ _ _ _ _
  refine r_iinc (pc := 184) dX10_familyOf_184 rfl (by decide) ?_
  change gW _ _ _ [some (.ref l0), some (.int l1), some (.int l2), some (.int l3), some (.int l4), some (.int l5), some (.int l6), some (.int l7), some (.int (t0 + (0 : Int32))), some (.int (l9 + (1 : Int32))), none, none] _ _ _ _ _ _
  refine r_goto (pc := 187) 20 dX10_familyOf_187 (by decide) ?_
  cases hf
  exact gW.weak (by simp [gle]) hk
def F_X10_familyOf_156 (l0 : Nat) (l1 : Int32) (l2 : Int32) (S : pS) (l3 : Int32) (l4 : Int32) (l5 : Int32) (l6 : Int32) (l8 : Int32) (l9 : Int32) (l11 : Int32) (t0 : Int32) (t1 : Int32) : Option ((Int32 × Int32 × Int32 × Int32 × Int32 × Int32 × Int32) ⊕ (Int32 × Int32 × Int32 × Int32 × Int32 × Int32)) := if l11 = 0 then (F_X10_familyOf_180 l0 l1 l2 S l3 l4 l5 l6 (t0 + t1) l9 l8) else ((F_X10_has S l0 l9 (0 : Int32)).bind fun q17 => if q17 = 0 then (F_X10_familyOf_180 l0 l1 l2 S l3 l4 l5 l6 (t0 + t1) l9 l8) else (some (.inl (l3, l4, l5, l6, t0 + t1, l8 + (1 : Int32), l9 + (1 : Int32)))))
set_option maxRecDepth 100000 in
set_option maxHeartbeats 4000000 in
theorem W_X10_familyOf_156 {X : pX} {Q : pO → Nat → pF → Prop} {mc ms : Nat} (l0 : Nat) (l1 : Int32) (l2 : Int32) (S : pS) (l3 : Int32) (l4 : Int32) (l5 : Int32) (l6 : Int32) (l8 : Int32) (l9 : Int32) (l11 : Int32) (t0 : Int32) (t1 : Int32) (r : (Int32 × Int32 × Int32 × Int32 × Int32 × Int32 × Int32) ⊕ (Int32 × Int32 × Int32 × Int32 × Int32 × Int32)) (hf : F_X10_familyOf_156 l0 l1 l2 S l3 l4 l5 l6 l8 l9 l11 t0 t1 = some r) (hk : Sum.elim (fun a' => gW X mX10_familyOf 20 (L_X10_familyOf_20 l0 l1 l2 S a') [] (s_X10_familyOf_20 l0 l1 l2 S a').1 (s_X10_familyOf_20 l0 l1 l2 S a').2 Q mc ms) (K_X10_familyOf_20 X Q mc ms l0 l1 l2 S) r) : gW X mX10_familyOf 156 [some (.ref l0), some (.int l1), some (.int l2), some (.int l3), some (.int l4), some (.int l5), some (.int l6), none, some (.int l8), some (.int l9), none, some (.int l11)] [.int t1, .int t0] S.1 S.2 Q mc ms := by
  unfold F_X10_familyOf_156 at hf
  refine r_iadd (pc := 156) dX10_familyOf_156 ?_
  refine r_istore (pc := 157) dX10_familyOf_157 (by decide) ?_
  change gW _ _ _ [some (.ref l0), some (.int l1), some (.int l2), some (.int l3), some (.int l4), some (.int l5), some (.int l6), some (.int (t0 + t1)), some (.int l8), some (.int l9), none, some (.int l11)] _ _ _ _ _ _
  refine r_iload (pc := 159) dX10_familyOf_159 rfl ?_
  refine r_iload (pc := 161) dX10_familyOf_161 rfl ?_
  refine r_if_eq (pc := 163) 180 dX10_familyOf_163 (by decide) (fun hc => ?_) (fun hc => ?_)
  · rw [if_pos hc] at hf
    exact gW.weak (by simp [gle]) (W_X10_familyOf_180 l0 l1 l2 S l3 l4 l5 l6 (t0 + t1) l9 l8 r hf hk)
  · rw [if_neg hc] at hf
    refine r_aload_n (pc := 166) dX10_familyOf_166 rfl ?_
    refine r_iload (pc := 167) dX10_familyOf_167 rfl ?_
    refine r_iconst (pc := 169) (0 : Int32) dX10_familyOf_169 (by decide) ?_
    replace hf := obind hf
    obtain ⟨q17, e18, hf⟩ := hf
    refine q_callV (pc := 170) (v := some (.int q17)) (S' := S) mX10_has 10 [.int l9, .int (0 : Int32)] dX10_familyOf_170 kX10_270 fX10_has iX10_has ⟨by decide, by decide⟩ rfl rfl rfl (Nat.le_of_ble_eq_true rfl) (og e18) (mc1 := 0) (ms1 := 0) (mc2 := mc) (ms2 := ms) (by omega) (by omega) (C_X10_has S l0 l9 (0 : Int32) q17 e18 (qR_mk _ _)) ?_
    change gW _ _ _ _ (.int q17 :: _) _ _ _ _ _
    refine r_if_eq (pc := 173) 180 dX10_familyOf_173 (by decide) (fun hc => ?_) (fun hc => ?_)
    · rw [if_pos hc] at hf
      exact gW.weak (by simp [gle]) (W_X10_familyOf_180 l0 l1 l2 S l3 l4 l5 l6 (t0 + t1) l9 l8 r hf hk)
    · rw [if_neg hc] at hf
      refine r_iconst (pc := 176) (1 : Int32) dX10_familyOf_176 (by decide) ?_
      refine r_goto (pc := 177) 181 dX10_familyOf_177 (by decide) ?_
      refine r_iadd (pc := 181) dX10_familyOf_181 ?_
      refine r_istore (pc := 182) dX10_familyOf_182 (by decide) ?_
      change gW _ _ _ [some (.ref l0), some (.int l1), some (.int l2), some (.int l3), some (.int l4), some (.int l5), some (.int l6), some (.int (t0 + t1)), some (.int (l8 + (1 : Int32))), some (.int l9), none, some (.int l11)] _ _ _ _ _ _
      refine r_iinc (pc := 184) dX10_familyOf_184 rfl (by decide) ?_
      change gW _ _ _ [some (.ref l0), some (.int l1), some (.int l2), some (.int l3), some (.int l4), some (.int l5), some (.int l6), some (.int (t0 + t1)), some (.int (l8 + (1 : Int32))), some (.int (l9 + (1 : Int32))), none, some (.int l11)] _ _ _ _ _ _
      refine r_goto (pc := 187) 20 dX10_familyOf_187 (by decide) ?_
      cases hf
      exact gW.weak (by simp [gle]) hk
def F_X10_familyOf_142 (l0 : Nat) (l1 : Int32) (l2 : Int32) (S : pS) (l3 : Int32) (l4 : Int32) (l5 : Int32) (l6 : Int32) (l7 : Int32) (l8 : Int32) (l9 : Int32) (t0 : Int32) : Option ((Int32 × Int32 × Int32 × Int32 × Int32 × Int32 × Int32) ⊕ (Int32 × Int32 × Int32 × Int32 × Int32 × Int32)) := if t0 = 0 then (F_X10_familyOf_156 l0 l1 l2 S l3 l4 l5 l6 l8 l9 t0 l7 (0 : Int32)) else (F_X10_familyOf_156 l0 l1 l2 S l3 l4 l5 l6 l8 l9 t0 l7 (1 : Int32))
set_option maxRecDepth 100000 in
set_option maxHeartbeats 4000000 in
theorem W_X10_familyOf_142 {X : pX} {Q : pO → Nat → pF → Prop} {mc ms : Nat} (l0 : Nat) (l1 : Int32) (l2 : Int32) (S : pS) (l3 : Int32) (l4 : Int32) (l5 : Int32) (l6 : Int32) (l7 : Int32) (l8 : Int32) (l9 : Int32) (t0 : Int32) (r : (Int32 × Int32 × Int32 × Int32 × Int32 × Int32 × Int32) ⊕ (Int32 × Int32 × Int32 × Int32 × Int32 × Int32)) (hf : F_X10_familyOf_142 l0 l1 l2 S l3 l4 l5 l6 l7 l8 l9 t0 = some r) (hk : Sum.elim (fun a' => gW X mX10_familyOf 20 (L_X10_familyOf_20 l0 l1 l2 S a') [] (s_X10_familyOf_20 l0 l1 l2 S a').1 (s_X10_familyOf_20 l0 l1 l2 S a').2 Q mc ms) (K_X10_familyOf_20 X Q mc ms l0 l1 l2 S) r) : gW X mX10_familyOf 142 [some (.ref l0), some (.int l1), some (.int l2), some (.int l3), some (.int l4), some (.int l5), some (.int l6), some (.int l7), some (.int l8), some (.int l9), none, none] [.int t0] S.1 S.2 Q mc ms := by
  unfold F_X10_familyOf_142 at hf
  refine r_istore (pc := 142) dX10_familyOf_142 (by decide) ?_
  change gW _ _ _ [some (.ref l0), some (.int l1), some (.int l2), some (.int l3), some (.int l4), some (.int l5), some (.int l6), some (.int l7), some (.int l8), some (.int l9), none, some (.int t0)] _ _ _ _ _ _
  refine r_iload (pc := 144) dX10_familyOf_144 rfl ?_
  refine r_iload (pc := 146) dX10_familyOf_146 rfl ?_
  refine r_if_eq (pc := 148) 155 dX10_familyOf_148 (by decide) (fun hc => ?_) (fun hc => ?_)
  · rw [if_pos hc] at hf
    refine r_iconst (pc := 155) (0 : Int32) dX10_familyOf_155 (by decide) ?_
    exact gW.weak (by simp [gle]) (W_X10_familyOf_156 l0 l1 l2 S l3 l4 l5 l6 l8 l9 t0 l7 (0 : Int32) r hf hk)
  · rw [if_neg hc] at hf
    refine r_iconst (pc := 151) (1 : Int32) dX10_familyOf_151 (by decide) ?_
    refine r_goto (pc := 152) 156 dX10_familyOf_152 (by decide) ?_
    exact gW.weak (by simp [gle]) (W_X10_familyOf_156 l0 l1 l2 S l3 l4 l5 l6 l8 l9 t0 l7 (1 : Int32) r hf hk)
def F_X10_familyOf_121 (l0 : Nat) (l1 : Int32) (l2 : Int32) (S : pS) (l3 : Int32) (l4 : Int32) (l5 : Int32) (l7 : Int32) (l8 : Int32) (l9 : Int32) (t0 : Int32) : Option ((Int32 × Int32 × Int32 × Int32 × Int32 × Int32 × Int32) ⊕ (Int32 × Int32 × Int32 × Int32 × Int32 × Int32)) := (oGA S l0 10 1).bind fun x13 => (oAI S x13 .int ((916 : Int32) + l9)).bind fun x15 => if ¬ x15 = 0 then (F_X10_familyOf_142 l0 l1 l2 S l3 l4 l5 t0 l7 l8 l9 (0 : Int32)) else (F_X10_familyOf_142 l0 l1 l2 S l3 l4 l5 t0 l7 l8 l9 (1 : Int32))
set_option maxRecDepth 100000 in
set_option maxHeartbeats 4000000 in
theorem W_X10_familyOf_121 {X : pX} {Q : pO → Nat → pF → Prop} {mc ms : Nat} (l0 : Nat) (l1 : Int32) (l2 : Int32) (S : pS) (l3 : Int32) (l4 : Int32) (l5 : Int32) (l7 : Int32) (l8 : Int32) (l9 : Int32) (t0 : Int32) (r : (Int32 × Int32 × Int32 × Int32 × Int32 × Int32 × Int32) ⊕ (Int32 × Int32 × Int32 × Int32 × Int32 × Int32)) (hf : F_X10_familyOf_121 l0 l1 l2 S l3 l4 l5 l7 l8 l9 t0 = some r) (hk : Sum.elim (fun a' => gW X mX10_familyOf 20 (L_X10_familyOf_20 l0 l1 l2 S a') [] (s_X10_familyOf_20 l0 l1 l2 S a').1 (s_X10_familyOf_20 l0 l1 l2 S a').2 Q mc ms) (K_X10_familyOf_20 X Q mc ms l0 l1 l2 S) r) : gW X mX10_familyOf 121 [some (.ref l0), some (.int l1), some (.int l2), some (.int l3), some (.int l4), some (.int l5), none, some (.int l7), some (.int l8), some (.int l9), none, none] [.int t0] S.1 S.2 Q mc ms := by
  unfold F_X10_familyOf_121 at hf
  refine r_istore (pc := 121) dX10_familyOf_121 (by decide) ?_
  change gW _ _ _ [some (.ref l0), some (.int l1), some (.int l2), some (.int l3), some (.int l4), some (.int l5), some (.int t0), some (.int l7), some (.int l8), some (.int l9), none, none] _ _ _ _ _ _
  refine r_aload_n (pc := 123) dX10_familyOf_123 rfl ?_
  replace hf := obind hf
  obtain ⟨x13, e14, hf⟩ := hf
  refine q_getA (pc := 124) dX10_familyOf_124 gX10_7 e14 ?_
  refine r_sipush (pc := 127) (916 : Int32) dX10_familyOf_127 (by decide) ?_
  refine r_iload (pc := 130) dX10_familyOf_130 rfl ?_
  refine r_iadd (pc := 132) dX10_familyOf_132 ?_
  replace hf := obind hf
  obtain ⟨x15, e16, hf⟩ := hf
  refine q_iald (pc := 133) dX10_familyOf_133 e16 ?_
  refine r_if_ne (pc := 134) 141 dX10_familyOf_134 (by decide) (fun hc => ?_) (fun hc => ?_)
  · rw [if_pos hc] at hf
    refine r_iconst (pc := 141) (0 : Int32) dX10_familyOf_141 (by decide) ?_
    exact gW.weak (by simp [gle]) (W_X10_familyOf_142 l0 l1 l2 S l3 l4 l5 t0 l7 l8 l9 (0 : Int32) r hf hk)
  · rw [if_neg hc] at hf
    refine r_iconst (pc := 137) (1 : Int32) dX10_familyOf_137 (by decide) ?_
    refine r_goto (pc := 138) 142 dX10_familyOf_138 (by decide) ?_
    exact gW.weak (by simp [gle]) (W_X10_familyOf_142 l0 l1 l2 S l3 l4 l5 t0 l7 l8 l9 (1 : Int32) r hf hk)
def F_X10_familyOf_105 (l0 : Nat) (l1 : Int32) (l2 : Int32) (S : pS) (l3 : Int32) (l4 : Int32) (l6 : Int32) (l7 : Int32) (l8 : Int32) (l9 : Int32) (l10 : Int32) (t0 : Int32) : Option ((Int32 × Int32 × Int32 × Int32 × Int32 × Int32 × Int32) ⊕ (Int32 × Int32 × Int32 × Int32 × Int32 × Int32)) := if l10 ≤ l6 then (F_X10_familyOf_121 l0 l1 l2 S l3 l4 t0 l7 l8 l9 l6) else (F_X10_familyOf_121 l0 l1 l2 S l3 l4 t0 l7 l8 l9 l10)
set_option maxRecDepth 100000 in
set_option maxHeartbeats 4000000 in
theorem W_X10_familyOf_105 {X : pX} {Q : pO → Nat → pF → Prop} {mc ms : Nat} (l0 : Nat) (l1 : Int32) (l2 : Int32) (S : pS) (l3 : Int32) (l4 : Int32) (l6 : Int32) (l7 : Int32) (l8 : Int32) (l9 : Int32) (l10 : Int32) (t0 : Int32) (r : (Int32 × Int32 × Int32 × Int32 × Int32 × Int32 × Int32) ⊕ (Int32 × Int32 × Int32 × Int32 × Int32 × Int32)) (hf : F_X10_familyOf_105 l0 l1 l2 S l3 l4 l6 l7 l8 l9 l10 t0 = some r) (hk : Sum.elim (fun a' => gW X mX10_familyOf 20 (L_X10_familyOf_20 l0 l1 l2 S a') [] (s_X10_familyOf_20 l0 l1 l2 S a').1 (s_X10_familyOf_20 l0 l1 l2 S a').2 Q mc ms) (K_X10_familyOf_20 X Q mc ms l0 l1 l2 S) r) : gW X mX10_familyOf 105 [some (.ref l0), some (.int l1), some (.int l2), some (.int l3), some (.int l4), none, some (.int l6), some (.int l7), some (.int l8), some (.int l9), some (.int l10), none] [.int t0] S.1 S.2 Q mc ms := by
  unfold F_X10_familyOf_105 at hf
  refine r_istore (pc := 105) dX10_familyOf_105 (by decide) ?_
  change gW _ _ _ [some (.ref l0), some (.int l1), some (.int l2), some (.int l3), some (.int l4), some (.int t0), some (.int l6), some (.int l7), some (.int l8), some (.int l9), some (.int l10), none] _ _ _ _ _ _
  refine r_iload (pc := 107) dX10_familyOf_107 rfl ?_
  refine r_iload (pc := 109) dX10_familyOf_109 rfl ?_
  refine r_icmp_le (pc := 111) 119 dX10_familyOf_111 (by decide) (fun hc => ?_) (fun hc => ?_)
  · rw [if_pos hc] at hf
    refine r_iload (pc := 119) dX10_familyOf_119 rfl ?_
    exact gW.weak (by simp [gle]) (W_X10_familyOf_121 l0 l1 l2 S l3 l4 t0 l7 l8 l9 l6 r hf hk)
  · rw [if_neg hc] at hf
    refine r_iload (pc := 114) dX10_familyOf_114 rfl ?_
    refine r_goto (pc := 116) 121 dX10_familyOf_116 (by decide) ?_
    exact gW.weak (by simp [gle]) (W_X10_familyOf_121 l0 l1 l2 S l3 l4 t0 l7 l8 l9 l10 r hf hk)
def F_X10_familyOf_103 (l0 : Nat) (l1 : Int32) (l2 : Int32) (S : pS) (l3 : Int32) (l4 : Int32) (l5 : Int32) (l6 : Int32) (l7 : Int32) (l8 : Int32) (l9 : Int32) (l10 : Int32) : Option ((Int32 × Int32 × Int32 × Int32 × Int32 × Int32 × Int32) ⊕ (Int32 × Int32 × Int32 × Int32 × Int32 × Int32)) := F_X10_familyOf_105 l0 l1 l2 S l3 l4 l6 l7 l8 l9 l10 l5
set_option maxRecDepth 100000 in
set_option maxHeartbeats 4000000 in
theorem W_X10_familyOf_103 {X : pX} {Q : pO → Nat → pF → Prop} {mc ms : Nat} (l0 : Nat) (l1 : Int32) (l2 : Int32) (S : pS) (l3 : Int32) (l4 : Int32) (l5 : Int32) (l6 : Int32) (l7 : Int32) (l8 : Int32) (l9 : Int32) (l10 : Int32) (r : (Int32 × Int32 × Int32 × Int32 × Int32 × Int32 × Int32) ⊕ (Int32 × Int32 × Int32 × Int32 × Int32 × Int32)) (hf : F_X10_familyOf_103 l0 l1 l2 S l3 l4 l5 l6 l7 l8 l9 l10 = some r) (hk : Sum.elim (fun a' => gW X mX10_familyOf 20 (L_X10_familyOf_20 l0 l1 l2 S a') [] (s_X10_familyOf_20 l0 l1 l2 S a').1 (s_X10_familyOf_20 l0 l1 l2 S a').2 Q mc ms) (K_X10_familyOf_20 X Q mc ms l0 l1 l2 S) r) : gW X mX10_familyOf 103 [some (.ref l0), some (.int l1), some (.int l2), some (.int l3), some (.int l4), some (.int l5), some (.int l6), some (.int l7), some (.int l8), some (.int l9), some (.int l10), none] [] S.1 S.2 Q mc ms := by
  unfold F_X10_familyOf_103 at hf
  refine r_iload (pc := 103) dX10_familyOf_103 rfl ?_
  exact gW.weak (by simp [gle]) (W_X10_familyOf_105 l0 l1 l2 S l3 l4 l6 l7 l8 l9 l10 l5 r hf hk)
def F_X10_familyOf_98 (l0 : Nat) (l1 : Int32) (l2 : Int32) (S : pS) (l3 : Int32) (l4 : Int32) (l6 : Int32) (l7 : Int32) (l8 : Int32) (l9 : Int32) (l10 : Int32) : Option ((Int32 × Int32 × Int32 × Int32 × Int32 × Int32 × Int32) ⊕ (Int32 × Int32 × Int32 × Int32 × Int32 × Int32)) := F_X10_familyOf_105 l0 l1 l2 S l3 l4 l6 l7 l8 l9 l10 l10
set_option maxRecDepth 100000 in
set_option maxHeartbeats 4000000 in
theorem W_X10_familyOf_98 {X : pX} {Q : pO → Nat → pF → Prop} {mc ms : Nat} (l0 : Nat) (l1 : Int32) (l2 : Int32) (S : pS) (l3 : Int32) (l4 : Int32) (l6 : Int32) (l7 : Int32) (l8 : Int32) (l9 : Int32) (l10 : Int32) (r : (Int32 × Int32 × Int32 × Int32 × Int32 × Int32 × Int32) ⊕ (Int32 × Int32 × Int32 × Int32 × Int32 × Int32)) (hf : F_X10_familyOf_98 l0 l1 l2 S l3 l4 l6 l7 l8 l9 l10 = some r) (hk : Sum.elim (fun a' => gW X mX10_familyOf 20 (L_X10_familyOf_20 l0 l1 l2 S a') [] (s_X10_familyOf_20 l0 l1 l2 S a').1 (s_X10_familyOf_20 l0 l1 l2 S a').2 Q mc ms) (K_X10_familyOf_20 X Q mc ms l0 l1 l2 S) r) : gW X mX10_familyOf 98 [some (.ref l0), some (.int l1), some (.int l2), some (.int l3), some (.int l4), none, some (.int l6), some (.int l7), some (.int l8), some (.int l9), some (.int l10), none] [] S.1 S.2 Q mc ms := by
  unfold F_X10_familyOf_98 at hf
  refine r_iload (pc := 98) dX10_familyOf_98 rfl ?_
  refine r_goto (pc := 100) 105 dX10_familyOf_100 (by decide) ?_
  exact gW.weak (by simp [gle]) (W_X10_familyOf_105 l0 l1 l2 S l3 l4 l6 l7 l8 l9 l10 l10 r hf hk)
def F_X10_familyOf_20 (l0 : Nat) (l1 : Int32) (l2 : Int32) (S : pS) : Int32 × Int32 × Int32 × Int32 × Int32 × Int32 × Int32 → Option ((Int32 × Int32 × Int32 × Int32 × Int32 × Int32 × Int32) ⊕ (Int32 × Int32 × Int32 × Int32 × Int32 × Int32)) := fun a => if (61 : Int32) ≤ a.2.2.2.2.2.2 then (some (.inr (a.1, a.2.1, a.2.2.1, a.2.2.2.1, a.2.2.2.2.1, a.2.2.2.2.2.1))) else ((F_X10_isItem S l0 a.2.2.2.2.2.2).bind fun q1 => if q1 = 0 then (some (.inl (a.1, a.2.1, a.2.2.1, a.2.2.2.1, a.2.2.2.2.1, a.2.2.2.2.2.1, a.2.2.2.2.2.2 + (1 : Int32)))) else ((F_X10_isOfFamily S l0 a.2.2.2.2.2.2 l1).bind fun q3 => if ¬ q3 = 0 then ((oGA S l0 10 1).bind fun x5 => (oAI S x5 .int ((62 : Int32) + a.2.2.2.2.2.2)).bind fun x7 => (oGA S l0 10 1).bind fun x9 => (oAI S x9 .int ((123 : Int32) + a.2.2.2.2.2.2)).bind fun x11 => if x11 = (-1 : Int32) then (F_X10_familyOf_103 l0 l1 l2 S (a.1 + (1 : Int32)) (a.2.1 + x7) a.2.2.1 a.2.2.2.1 a.2.2.2.2.1 a.2.2.2.2.2.1 a.2.2.2.2.2.2 x11) else (if a.2.2.1 = (-1 : Int32) then (F_X10_familyOf_98 l0 l1 l2 S (a.1 + (1 : Int32)) (a.2.1 + x7) a.2.2.2.1 a.2.2.2.2.1 a.2.2.2.2.2.1 a.2.2.2.2.2.2 x11) else (if a.2.2.1 ≤ x11 then (F_X10_familyOf_103 l0 l1 l2 S (a.1 + (1 : Int32)) (a.2.1 + x7) a.2.2.1 a.2.2.2.1 a.2.2.2.2.1 a.2.2.2.2.2.1 a.2.2.2.2.2.2 x11) else (F_X10_familyOf_98 l0 l1 l2 S (a.1 + (1 : Int32)) (a.2.1 + x7) a.2.2.2.1 a.2.2.2.2.1 a.2.2.2.2.2.1 a.2.2.2.2.2.2 x11)))) else (some (.inl (a.1, a.2.1, a.2.2.1, a.2.2.2.1, a.2.2.2.2.1, a.2.2.2.2.2.1, a.2.2.2.2.2.2 + (1 : Int32))))))
set_option maxRecDepth 100000 in
set_option maxHeartbeats 4000000 in
theorem W_X10_familyOf_20 {X : pX} {Q : pO → Nat → pF → Prop} {mc ms : Nat} (l0 : Nat) (l1 : Int32) (l2 : Int32) (S : pS) : ∀ (a : Int32 × Int32 × Int32 × Int32 × Int32 × Int32 × Int32) (r : (Int32 × Int32 × Int32 × Int32 × Int32 × Int32 × Int32) ⊕ (Int32 × Int32 × Int32 × Int32 × Int32 × Int32)), F_X10_familyOf_20 l0 l1 l2 S a = some r → Sum.elim (fun a' => gW X mX10_familyOf 20 (L_X10_familyOf_20 l0 l1 l2 S a') [] (s_X10_familyOf_20 l0 l1 l2 S a').1 (s_X10_familyOf_20 l0 l1 l2 S a').2 Q mc ms) (K_X10_familyOf_20 X Q mc ms l0 l1 l2 S) r → gW X mX10_familyOf 20 (L_X10_familyOf_20 l0 l1 l2 S a) [] (s_X10_familyOf_20 l0 l1 l2 S a).1 (s_X10_familyOf_20 l0 l1 l2 S a).2 Q mc ms := by
  intro a r hf hk
  obtain ⟨l3, l4, l5, l6, l7, l8, l9⟩ := a
  unfold F_X10_familyOf_20 at hf
  try dsimp only at hf
  change gW _ _ _ [some (.ref l0), some (.int l1), some (.int l2), some (.int l3), some (.int l4), some (.int l5), some (.int l6), some (.int l7), some (.int l8), some (.int l9), none, none] _ S.1 S.2 _ _ _
  refine r_iload (pc := 20) dX10_familyOf_20 rfl ?_
  refine r_bipush (pc := 22) (61 : Int32) dX10_familyOf_22 (by decide) ?_
  refine r_icmp_ge (pc := 24) 190 dX10_familyOf_24 (by decide) (fun hc => ?_) (fun hc => ?_)
  · rw [if_pos hc] at hf
    cases hf
    exact gW.weak (by simp [gle]) hk
  · rw [if_neg hc] at hf
    refine r_aload_n (pc := 27) dX10_familyOf_27 rfl ?_
    refine r_iload (pc := 28) dX10_familyOf_28 rfl ?_
    replace hf := obind hf
    obtain ⟨q1, e2, hf⟩ := hf
    refine q_callV (pc := 30) (v := some (.int q1)) (S' := S) mX10_isItem 10 [.int l9] dX10_familyOf_30 kX10_146 fX10_isItem iX10_isItem ⟨by decide, by decide⟩ rfl rfl rfl (Nat.le_of_ble_eq_true rfl) (og e2) (mc1 := 0) (ms1 := 0) (mc2 := mc) (ms2 := ms) (by omega) (by omega) (C_X10_isItem S l0 l9 q1 e2 (qR_mk _ _)) ?_
    change gW _ _ _ _ (.int q1 :: _) _ _ _ _ _
    refine r_if_eq (pc := 33) 184 dX10_familyOf_33 (by decide) (fun hc => ?_) (fun hc => ?_)
    · rw [if_pos hc] at hf
      refine r_iinc (pc := 184) dX10_familyOf_184 rfl (by decide) ?_
      change gW _ _ _ [some (.ref l0), some (.int l1), some (.int l2), some (.int l3), some (.int l4), some (.int l5), some (.int l6), some (.int l7), some (.int l8), some (.int (l9 + (1 : Int32))), none, none] _ _ _ _ _ _
      refine r_goto (pc := 187) 20 dX10_familyOf_187 (by decide) ?_
      cases hf
      exact gW.weak (by simp [gle]) hk
    · rw [if_neg hc] at hf
      refine r_aload_n (pc := 36) dX10_familyOf_36 rfl ?_
      refine r_iload (pc := 37) dX10_familyOf_37 rfl ?_
      refine r_iload_n (pc := 39) dX10_familyOf_39 rfl ?_
      replace hf := obind hf
      obtain ⟨q3, e4, hf⟩ := hf
      refine q_callV (pc := 40) (v := some (.int q3)) (S' := S) mX10_isOfFamily 10 [.int l9, .int l1] dX10_familyOf_40 kX10_273 fX10_isOfFamily iX10_isOfFamily ⟨by decide, by decide⟩ rfl rfl rfl (Nat.le_of_ble_eq_true rfl) (og e4) (mc1 := 0) (ms1 := 0) (mc2 := mc) (ms2 := ms) (by omega) (by omega) (C_X10_isOfFamily S l0 l9 l1 q3 e4 (qR_mk _ _)) ?_
      change gW _ _ _ _ (.int q3 :: _) _ _ _ _ _
      refine r_if_ne (pc := 43) 49 dX10_familyOf_43 (by decide) (fun hc => ?_) (fun hc => ?_)
      · rw [if_pos hc] at hf
        refine r_iinc (pc := 49) dX10_familyOf_49 rfl (by decide) ?_
        change gW _ _ _ [some (.ref l0), some (.int l1), some (.int l2), some (.int (l3 + (1 : Int32))), some (.int l4), some (.int l5), some (.int l6), some (.int l7), some (.int l8), some (.int l9), none, none] _ _ _ _ _ _
        refine r_iload (pc := 52) dX10_familyOf_52 rfl ?_
        refine r_aload_n (pc := 54) dX10_familyOf_54 rfl ?_
        replace hf := obind hf
        obtain ⟨x5, e6, hf⟩ := hf
        refine q_getA (pc := 55) dX10_familyOf_55 gX10_7 e6 ?_
        refine r_bipush (pc := 58) (62 : Int32) dX10_familyOf_58 (by decide) ?_
        refine r_iload (pc := 60) dX10_familyOf_60 rfl ?_
        refine r_iadd (pc := 62) dX10_familyOf_62 ?_
        replace hf := obind hf
        obtain ⟨x7, e8, hf⟩ := hf
        refine q_iald (pc := 63) dX10_familyOf_63 e8 ?_
        refine r_iadd (pc := 64) dX10_familyOf_64 ?_
        refine r_istore (pc := 65) dX10_familyOf_65 (by decide) ?_
        change gW _ _ _ [some (.ref l0), some (.int l1), some (.int l2), some (.int (l3 + (1 : Int32))), some (.int (l4 + x7)), some (.int l5), some (.int l6), some (.int l7), some (.int l8), some (.int l9), none, none] _ _ _ _ _ _
        refine r_aload_n (pc := 67) dX10_familyOf_67 rfl ?_
        replace hf := obind hf
        obtain ⟨x9, e10, hf⟩ := hf
        refine q_getA (pc := 68) dX10_familyOf_68 gX10_7 e10 ?_
        refine r_bipush (pc := 71) (123 : Int32) dX10_familyOf_71 (by decide) ?_
        refine r_iload (pc := 73) dX10_familyOf_73 rfl ?_
        refine r_iadd (pc := 75) dX10_familyOf_75 ?_
        replace hf := obind hf
        obtain ⟨x11, e12, hf⟩ := hf
        refine q_iald (pc := 76) dX10_familyOf_76 e12 ?_
        refine r_istore (pc := 77) dX10_familyOf_77 (by decide) ?_
        change gW _ _ _ [some (.ref l0), some (.int l1), some (.int l2), some (.int (l3 + (1 : Int32))), some (.int (l4 + x7)), some (.int l5), some (.int l6), some (.int l7), some (.int l8), some (.int l9), some (.int x11), none] _ _ _ _ _ _
        refine r_iload (pc := 79) dX10_familyOf_79 rfl ?_
        refine r_iconst (pc := 81) (-1 : Int32) dX10_familyOf_81 (by decide) ?_
        refine r_icmp_eq (pc := 82) 103 dX10_familyOf_82 (by decide) (fun hc => ?_) (fun hc => ?_)
        · rw [if_pos hc] at hf
          exact gW.weak (by simp [gle]) (W_X10_familyOf_103 l0 l1 l2 S (l3 + (1 : Int32)) (l4 + x7) l5 l6 l7 l8 l9 x11 r hf hk)
        · rw [if_neg hc] at hf
          refine r_iload (pc := 85) dX10_familyOf_85 rfl ?_
          refine r_iconst (pc := 87) (-1 : Int32) dX10_familyOf_87 (by decide) ?_
          refine r_icmp_eq (pc := 88) 98 dX10_familyOf_88 (by decide) (fun hc => ?_) (fun hc => ?_)
          · rw [if_pos hc] at hf
            exact gW.weak (by simp [gle]) (W_X10_familyOf_98 l0 l1 l2 S (l3 + (1 : Int32)) (l4 + x7) l6 l7 l8 l9 x11 r hf hk)
          · rw [if_neg hc] at hf
            refine r_iload (pc := 91) dX10_familyOf_91 rfl ?_
            refine r_iload (pc := 93) dX10_familyOf_93 rfl ?_
            refine r_icmp_ge (pc := 95) 103 dX10_familyOf_95 (by decide) (fun hc => ?_) (fun hc => ?_)
            · rw [if_pos hc] at hf
              exact gW.weak (by simp [gle]) (W_X10_familyOf_103 l0 l1 l2 S (l3 + (1 : Int32)) (l4 + x7) l5 l6 l7 l8 l9 x11 r hf hk)
            · rw [if_neg hc] at hf
              exact gW.weak (by simp [gle]) (W_X10_familyOf_98 l0 l1 l2 S (l3 + (1 : Int32)) (l4 + x7) l6 l7 l8 l9 x11 r hf hk)
      · rw [if_neg hc] at hf
        refine r_goto (pc := 46) 184 dX10_familyOf_46 (by decide) ?_
        refine r_iinc (pc := 184) dX10_familyOf_184 rfl (by decide) ?_
        change gW _ _ _ [some (.ref l0), some (.int l1), some (.int l2), some (.int l3), some (.int l4), some (.int l5), some (.int l6), some (.int l7), some (.int l8), some (.int (l9 + (1 : Int32))), none, none] _ _ _ _ _ _
        refine r_goto (pc := 187) 20 dX10_familyOf_187 (by decide) ?_
        cases hf
        exact gW.weak (by simp [gle]) hk
def F_X10_familyOf (S : pS) (a0 : Nat) (a1 : Int32) (a2 : Int32) : Option (Int32) := (oF S a0 10).bind fun _ => (iter (F_X10_familyOf_20 a0 a1 a2 S) fu ((0 : Int32), (0 : Int32), (-1 : Int32), (-1 : Int32), (0 : Int32), (0 : Int32), (0 : Int32))).bind fun r19 => if ¬ a2 = 0 then (if ¬ a2 = (1 : Int32) then (if ¬ a2 = (2 : Int32) then (if ¬ a2 = (3 : Int32) then (if ¬ a2 = (4 : Int32) then (some r19.2.2.2.2.2) else (some r19.2.2.2.2.1)) else (some r19.2.2.2.1)) else (some r19.2.2.1)) else (some r19.2.1)) else (some r19.1)
set_option maxRecDepth 100000 in
set_option maxHeartbeats 4000000 in
theorem C_X10_familyOf {X : pX} {Q : pO → Nat → pF → Prop} (S : pS) (a0 : Nat) (a1 : Int32) (a2 : Int32) (r : Int32) (hf : F_X10_familyOf S a0 a1 a2 = some r) (hk : Q (.inl (some (.int r))) S.1 S.2) : gC X mX10_familyOf [.ref a0, .int a1, .int a2] S.1 S.2 Q 0 0 := by
  refine gC_of (by decide) (Nat.le_of_ble_eq_true rfl) rfl ?_
  change gW _ _ _ [some (.ref a0), some (.int a1), some (.int a2), none, none, none, none, none, none, none, none, none] _ _ _ _ _ _
  unfold F_X10_familyOf at hf
  obtain ⟨_, _, hf⟩ := obind hf
  refine r_iconst (pc := 0) (0 : Int32) dX10_familyOf_0 (by decide) ?_
  refine r_istore_n (pc := 1) dX10_familyOf_1 (by decide) ?_
  change gW _ _ _ [some (.ref a0), some (.int a1), some (.int a2), some (.int (0 : Int32)), none, none, none, none, none, none, none, none] _ _ _ _ _ _
  refine r_iconst (pc := 2) (0 : Int32) dX10_familyOf_2 (by decide) ?_
  refine r_istore (pc := 3) dX10_familyOf_3 (by decide) ?_
  change gW _ _ _ [some (.ref a0), some (.int a1), some (.int a2), some (.int (0 : Int32)), some (.int (0 : Int32)), none, none, none, none, none, none, none] _ _ _ _ _ _
  refine r_iconst (pc := 5) (-1 : Int32) dX10_familyOf_5 (by decide) ?_
  refine r_istore (pc := 6) dX10_familyOf_6 (by decide) ?_
  change gW _ _ _ [some (.ref a0), some (.int a1), some (.int a2), some (.int (0 : Int32)), some (.int (0 : Int32)), some (.int (-1 : Int32)), none, none, none, none, none, none] _ _ _ _ _ _
  refine r_iconst (pc := 8) (-1 : Int32) dX10_familyOf_8 (by decide) ?_
  refine r_istore (pc := 9) dX10_familyOf_9 (by decide) ?_
  change gW _ _ _ [some (.ref a0), some (.int a1), some (.int a2), some (.int (0 : Int32)), some (.int (0 : Int32)), some (.int (-1 : Int32)), some (.int (-1 : Int32)), none, none, none, none, none] _ _ _ _ _ _
  refine r_iconst (pc := 11) (0 : Int32) dX10_familyOf_11 (by decide) ?_
  refine r_istore (pc := 12) dX10_familyOf_12 (by decide) ?_
  change gW _ _ _ [some (.ref a0), some (.int a1), some (.int a2), some (.int (0 : Int32)), some (.int (0 : Int32)), some (.int (-1 : Int32)), some (.int (-1 : Int32)), some (.int (0 : Int32)), none, none, none, none] _ _ _ _ _ _
  refine r_iconst (pc := 14) (0 : Int32) dX10_familyOf_14 (by decide) ?_
  refine r_istore (pc := 15) dX10_familyOf_15 (by decide) ?_
  change gW _ _ _ [some (.ref a0), some (.int a1), some (.int a2), some (.int (0 : Int32)), some (.int (0 : Int32)), some (.int (-1 : Int32)), some (.int (-1 : Int32)), some (.int (0 : Int32)), some (.int (0 : Int32)), none, none, none] _ _ _ _ _ _
  refine r_iconst (pc := 17) (0 : Int32) dX10_familyOf_17 (by decide) ?_
  refine r_istore (pc := 18) dX10_familyOf_18 (by decide) ?_
  change gW _ _ _ [some (.ref a0), some (.int a1), some (.int a2), some (.int (0 : Int32)), some (.int (0 : Int32)), some (.int (-1 : Int32)), some (.int (-1 : Int32)), some (.int (0 : Int32)), some (.int (0 : Int32)), some (.int (0 : Int32)), none, none] _ _ _ _ _ _
  replace hf := obind hf
  obtain ⟨r19, e20, hf⟩ := hf
  refine gW.weak (ls' := [some (.ref a0), some (.int a1), some (.int a2), some (.int (0 : Int32)), some (.int (0 : Int32)), some (.int (-1 : Int32)), some (.int (-1 : Int32)), some (.int (0 : Int32)), some (.int (0 : Int32)), some (.int (0 : Int32)), none, none]) (by simp [gle]) ?_
  refine g_iter (L := L_X10_familyOf_20 a0 a1 a2 S) (s := s_X10_familyOf_20 a0 a1 a2 S) (K := K_X10_familyOf_20 X Q _ _ a0 a1 a2 S) (W_X10_familyOf_20 a0 a1 a2 S) fu ((0 : Int32), (0 : Int32), (-1 : Int32), (-1 : Int32), (0 : Int32), (0 : Int32), (0 : Int32)) _ e20 ?_
  show gW _ _ 190 [some (.ref a0), some (.int a1), some (.int a2), some (.int r19.1), some (.int r19.2.1), some (.int r19.2.2.1), some (.int r19.2.2.2.1), some (.int r19.2.2.2.2.1), some (.int r19.2.2.2.2.2), none, none, none] [] S.1 S.2 _ _ _
  refine r_iload_n (pc := 190) dX10_familyOf_190 rfl ?_
  refine r_if_ne (pc := 191) 198 dX10_familyOf_191 (by decide) (fun hc => ?_) (fun hc => ?_)
  · rw [if_pos hc] at hf
    refine r_iload_n (pc := 198) dX10_familyOf_198 rfl ?_
    refine r_iconst (pc := 199) (1 : Int32) dX10_familyOf_199 (by decide) ?_
    refine r_icmp_ne (pc := 200) 208 dX10_familyOf_200 (by decide) (fun hc => ?_) (fun hc => ?_)
    · rw [if_pos hc] at hf
      refine r_iload_n (pc := 208) dX10_familyOf_208 rfl ?_
      refine r_iconst (pc := 209) (2 : Int32) dX10_familyOf_209 (by decide) ?_
      refine r_icmp_ne (pc := 210) 218 dX10_familyOf_210 (by decide) (fun hc => ?_) (fun hc => ?_)
      · rw [if_pos hc] at hf
        refine r_iload_n (pc := 218) dX10_familyOf_218 rfl ?_
        refine r_iconst (pc := 219) (3 : Int32) dX10_familyOf_219 (by decide) ?_
        refine r_icmp_ne (pc := 220) 228 dX10_familyOf_220 (by decide) (fun hc => ?_) (fun hc => ?_)
        · rw [if_pos hc] at hf
          refine r_iload_n (pc := 228) dX10_familyOf_228 rfl ?_
          refine r_iconst (pc := 229) (4 : Int32) dX10_familyOf_229 (by decide) ?_
          refine r_icmp_ne (pc := 230) 238 dX10_familyOf_230 (by decide) (fun hc => ?_) (fun hc => ?_)
          · rw [if_pos hc] at hf
            refine r_iload (pc := 238) dX10_familyOf_238 rfl ?_
            refine r_ireturn (pc := 240) .int dX10_familyOf_240 rfl rfl ?_
            cases hf
            exact hk
          · rw [if_neg hc] at hf
            refine r_iload (pc := 233) dX10_familyOf_233 rfl ?_
            refine r_goto (pc := 235) 240 dX10_familyOf_235 (by decide) ?_
            refine r_ireturn (pc := 240) .int dX10_familyOf_240 rfl rfl ?_
            cases hf
            exact hk
        · rw [if_neg hc] at hf
          refine r_iload (pc := 223) dX10_familyOf_223 rfl ?_
          refine r_goto (pc := 225) 240 dX10_familyOf_225 (by decide) ?_
          refine r_ireturn (pc := 240) .int dX10_familyOf_240 rfl rfl ?_
          cases hf
          exact hk
      · rw [if_neg hc] at hf
        refine r_iload (pc := 213) dX10_familyOf_213 rfl ?_
        refine r_goto (pc := 215) 240 dX10_familyOf_215 (by decide) ?_
        refine r_ireturn (pc := 240) .int dX10_familyOf_240 rfl rfl ?_
        cases hf
        exact hk
    · rw [if_neg hc] at hf
      refine r_iload (pc := 203) dX10_familyOf_203 rfl ?_
      refine r_goto (pc := 205) 240 dX10_familyOf_205 (by decide) ?_
      refine r_ireturn (pc := 240) .int dX10_familyOf_240 rfl rfl ?_
      cases hf
      exact hk
  · rw [if_neg hc] at hf
    refine r_iload_n (pc := 194) dX10_familyOf_194 rfl ?_
    refine r_goto (pc := 195) 240 dX10_familyOf_195 (by decide) ?_
    refine r_ireturn (pc := 240) .int dX10_familyOf_240 rfl rfl ?_
    cases hf
    exact hk
