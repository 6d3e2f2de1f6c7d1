def F_X0_init (S : pS) (a0 : Nat) : Option (pS) := (oPA (oNew S (.inl (.int, 3, .inl (fun _ => 0)))) a0 0 0 S.1).bind fun S1 => (oPI S1 a0 0 1 (0 : Int32)).bind fun S3 => some S3
set_option maxRecDepth 100000 in
set_option maxHeartbeats 4000000 in
theorem C_X0_init {X : pX} {Q : pO → Nat → pF → Prop} (S : pS) (a0 : Nat) (r : pS) (hf : F_X0_init S a0 = some r) (hk : Q (.inl none) r.1 r.2) : gC X mX0_init [.ref a0] S.1 S.2 Q 1 3 := by
  refine gC_of (by decide) (Nat.le_of_ble_eq_true rfl) rfl ?_
  change gW _ _ _ [some (.ref a0)] _ _ _ _ _ _
  unfold F_X0_init at hf
  refine r_aload_n (pc := 0) dX0_init_0 rfl ?_
  refine r_objInit (pc := 1) dX0_init_1 kX0_3 k_obj.1 k_obj.2 ⟨by decide, Nat.le_of_ble_eq_true rfl⟩ ?_
  refine r_aload_n (pc := 4) dX0_init_4 rfl ?_
  refine r_iconst (pc := 5) (3 : Int32) dX0_init_5 (by decide) ?_
  refine r_newa (pc := 6) .int .int (3, .inl (fun _ => 0)) dX0_init_6 rfl (by decide) k_arr_int (fun _ => rfl) (fun _ => rfl) (by decide) (by decide) (by decide) (mc2 := 0) (ms2 := 0) (by decide) (by decide) ?_
  change gW _ _ _ _ _ (oNew S (.inl (.int, 3, .inl (fun _ => 0)))).1 (oNew S (.inl (.int, 3, .inl (fun _ => 0)))).2 _ _ _
  replace hf := obind hf
  obtain ⟨S1, e2, hf⟩ := hf
  refine q_putAF (pc := 8) dX0_init_8 pX0_9 (Or.inr ⟨_, rfl⟩) rfl e2 ?_
  refine r_aload_n (pc := 11) dX0_init_11 rfl ?_
  refine r_iconst (pc := 12) (0 : Int32) dX0_init_12 (by decide) ?_
  replace hf := obind hf
  obtain ⟨S3, e4, hf⟩ := hf
  refine q_putI (pc := 13) dX0_init_13 pX0_15 rfl e4 ?_
  refine r_return (pc := 16) dX0_init_16 rfl ?_
  cases hf
  exact hk
def F_X0_size (S : pS) (a0 : Nat) : Option (Int32) := (oF S a0 0).bind fun _ => (oGI S a0 0 1).bind fun x1 => some x1
set_option maxRecDepth 100000 in
set_option maxHeartbeats 4000000 in
theorem C_X0_size {X : pX} {Q : pO → Nat → pF → Prop} (S : pS) (a0 : Nat) (r : Int32) (hf : F_X0_size S a0 = some r) (hk : Q (.inl (some (.int r))) S.1 S.2) : gC X mX0_size [.ref a0] S.1 S.2 Q 0 0 := by
  refine gC_of (by decide) (Nat.le_of_ble_eq_true rfl) rfl ?_
  change gW _ _ _ [some (.ref a0)] _ _ _ _ _ _
  unfold F_X0_size at hf
  obtain ⟨_, _, hf⟩ := obind hf
  refine r_aload_n (pc := 0) dX0_size_0 rfl ?_
  replace hf := obind hf
  obtain ⟨x1, e2, hf⟩ := hf
  refine q_getI (pc := 1) dX0_size_1 gX0_15 e2 ?_
  refine r_ireturn (pc := 4) .int dX0_size_4 rfl rfl ?_
  cases hf
  exact hk
def F_X0_numberAt (S : pS) (a0 : Nat) (a1 : Int32) : Option (Int32) := (oF S a0 0).bind fun _ => (oGA S a0 0 0).bind fun x1 => (oAI S x1 .int a1).bind fun x3 => some x3
set_option maxRecDepth 100000 in
set_option maxHeartbeats 4000000 in
theorem C_X0_numberAt {X : pX} {Q : pO → Nat → pF → Prop} (S : pS) (a0 : Nat) (a1 : Int32) (r : Int32) (hf : F_X0_numberAt S a0 a1 = some r) (hk : Q (.inl (some (.int r))) S.1 S.2) : gC X mX0_numberAt [.ref a0, .int a1] S.1 S.2 Q 0 0 := by
  refine gC_of (by decide) (Nat.le_of_ble_eq_true rfl) rfl ?_
  change gW _ _ _ [some (.ref a0), some (.int a1)] _ _ _ _ _ _
  unfold F_X0_numberAt at hf
  obtain ⟨_, _, hf⟩ := obind hf
  refine r_aload_n (pc := 0) dX0_numberAt_0 rfl ?_
  replace hf := obind hf
  obtain ⟨x1, e2, hf⟩ := hf
  refine q_getA (pc := 1) dX0_numberAt_1 gX0_9 e2 ?_
  refine r_iload_n (pc := 4) dX0_numberAt_4 rfl ?_
  replace hf := obind hf
  obtain ⟨x3, e4, hf⟩ := hf
  refine q_iald (pc := 5) dX0_numberAt_5 e4 ?_
  refine r_ireturn (pc := 6) .int dX0_numberAt_6 rfl rfl ?_
  cases hf
  exact hk
def F_X0_keep_47 (S : pS) (l0 : Nat) (l3 : Int32) : Option (pS) := (oGA S l0 0 0).bind fun x17 => (oGI S l0 0 1).bind fun x19 => (oSI S x17 .int x19 l3).bind fun S21 => (oGI S21 l0 0 1).bind fun x23 => (oPI S21 l0 0 1 (x23 + (1 : Int32))).bind fun S25 => some S25
set_option maxRecDepth 100000 in
set_option maxHeartbeats 4000000 in
theorem W_X0_keep_47 {X : pX} {Q : pO → Nat → pF → Prop} (S : pS) (l0 : Nat) (l3 : Int32) (r : pS) (hf : F_X0_keep_47 S l0 l3 = some r) (hk : Q (.inl none) r.1 r.2) : gW X mX0_keep 47 [some (.ref l0), none, none, some (.int l3)] [] S.1 S.2 Q 0 0 := by
  unfold F_X0_keep_47 at hf
  refine r_aload_n (pc := 47) dX0_keep_47 rfl ?_
  replace hf := obind hf
  obtain ⟨x17, e18, hf⟩ := hf
  refine q_getA (pc := 48) dX0_keep_48 gX0_9 e18 ?_
  refine r_aload_n (pc := 51) dX0_keep_51 rfl ?_
  replace hf := obind hf
  obtain ⟨x19, e20, hf⟩ := hf
  refine q_getI (pc := 52) dX0_keep_52 gX0_15 e20 ?_
  refine r_iload_n (pc := 55) dX0_keep_55 rfl ?_
  replace hf := obind hf
  obtain ⟨S21, e22, hf⟩ := hf
  refine q_iast (pc := 56) dX0_keep_56 e22 ?_
  refine r_aload_n (pc := 57) dX0_keep_57 rfl ?_
  refine r_dup (pc := 58) dX0_keep_58 rfl ?_
  replace hf := obind hf
  obtain ⟨x23, e24, hf⟩ := hf
  refine q_getI (pc := 59) dX0_keep_59 gX0_15 e24 ?_
  refine r_iconst (pc := 62) (1 : Int32) dX0_keep_62 (by decide) ?_
  refine r_iadd (pc := 63) dX0_keep_63 ?_
  replace hf := obind hf
  obtain ⟨S25, e26, hf⟩ := hf
  refine q_putI (pc := 64) dX0_keep_64 pX0_15 rfl e26 ?_
  refine r_return (pc := 67) dX0_keep_67 rfl ?_
  cases hf
  exact hk
def F_X0_keep_24 (S : pS) (l0 : Nat) (l2 : Int32) (l3 : Int32) : Option (pS) := (oGA S l0 0 0).bind fun x7 => (oGI S l0 0 1).bind fun x9 => (oSI S x7 .int x9 ((100 : Int32) + l2)).bind fun S11 => (oGI S11 l0 0 1).bind fun x13 => (oPI S11 l0 0 1 (x13 + (1 : Int32))).bind fun S15 => F_X0_keep_47 S15 l0 l3
set_option maxRecDepth 100000 in
set_option maxHeartbeats 4000000 in
theorem W_X0_keep_24 {X : pX} {Q : pO → Nat → pF → Prop} (S : pS) (l0 : Nat) (l2 : Int32) (l3 : Int32) (r : pS) (hf : F_X0_keep_24 S l0 l2 l3 = some r) (hk : Q (.inl none) r.1 r.2) : gW X mX0_keep 24 [some (.ref l0), none, some (.int l2), some (.int l3)] [] S.1 S.2 Q 0 0 := by
  unfold F_X0_keep_24 at hf
  refine r_aload_n (pc := 24) dX0_keep_24 rfl ?_
  replace hf := obind hf
  obtain ⟨x7, e8, hf⟩ := hf
  refine q_getA (pc := 25) dX0_keep_25 gX0_9 e8 ?_
  refine r_aload_n (pc := 28) dX0_keep_28 rfl ?_
  replace hf := obind hf
  obtain ⟨x9, e10, hf⟩ := hf
  refine q_getI (pc := 29) dX0_keep_29 gX0_15 e10 ?_
  refine r_bipush (pc := 32) (100 : Int32) dX0_keep_32 (by decide) ?_
  refine r_iload_n (pc := 34) dX0_keep_34 rfl ?_
  refine r_iadd (pc := 35) dX0_keep_35 ?_
  replace hf := obind hf
  obtain ⟨S11, e12, hf⟩ := hf
  refine q_iast (pc := 36) dX0_keep_36 e12 ?_
  refine r_aload_n (pc := 37) dX0_keep_37 rfl ?_
  refine r_dup (pc := 38) dX0_keep_38 rfl ?_
  replace hf := obind hf
  obtain ⟨x13, e14, hf⟩ := hf
  refine q_getI (pc := 39) dX0_keep_39 gX0_15 e14 ?_
  refine r_iconst (pc := 42) (1 : Int32) dX0_keep_42 (by decide) ?_
  refine r_iadd (pc := 43) dX0_keep_43 ?_
  replace hf := obind hf
  obtain ⟨S15, e16, hf⟩ := hf
  refine q_putI (pc := 44) dX0_keep_44 pX0_15 rfl e16 ?_
  refine gW.mono (mc := 0) (ms := 0) ?_ (fun _ _ _ q => q) (by decide) (by decide)
  exact gW.weak (by simp [gle]) (W_X0_keep_47 S15 l0 l3 r hf hk)
def F_X0_keep (S : pS) (a0 : Nat) (a1 : Int32) (a2 : Int32) (a3 : Int32) : Option (pS) := (oF S a0 0).bind fun _ => (oGA S a0 0 0).bind fun x1 => (oSI S x1 .int (0 : Int32) a1).bind fun S3 => (oPI S3 a0 0 1 (1 : Int32)).bind fun S5 => if a1 = (30 : Int32) then (F_X0_keep_24 S5 a0 a2 a3) else (if ¬ a1 = (60 : Int32) then (F_X0_keep_47 S5 a0 a3) else (F_X0_keep_24 S5 a0 a2 a3))
set_option maxRecDepth 100000 in
set_option maxHeartbeats 4000000 in
theorem C_X0_keep {X : pX} {Q : pO → Nat → pF → Prop} (S : pS) (a0 : Nat) (a1 : Int32) (a2 : Int32) (a3 : Int32) (r : pS) (hf : F_X0_keep S a0 a1 a2 a3 = some r) (hk : Q (.inl none) r.1 r.2) : gC X mX0_keep [.ref a0, .int a1, .int a2, .int a3] S.1 S.2 Q 0 0 := by
  refine gC_of (by decide) (Nat.le_of_ble_eq_true rfl) rfl ?_
  change gW _ _ _ [some (.ref a0), some (.int a1), some (.int a2), some (.int a3)] _ _ _ _ _ _
  unfold F_X0_keep at hf
  obtain ⟨_, _, hf⟩ := obind hf
  refine r_aload_n (pc := 0) dX0_keep_0 rfl ?_
  replace hf := obind hf
  obtain ⟨x1, e2, hf⟩ := hf
  refine q_getA (pc := 1) dX0_keep_1 gX0_9 e2 ?_
  refine r_iconst (pc := 4) (0 : Int32) dX0_keep_4 (by decide) ?_
  refine r_iload_n (pc := 5) dX0_keep_5 rfl ?_
  replace hf := obind hf
  obtain ⟨S3, e4, hf⟩ := hf
  refine q_iast (pc := 6) dX0_keep_6 e4 ?_
  refine r_aload_n (pc := 7) dX0_keep_7 rfl ?_
  refine r_iconst (pc := 8) (1 : Int32) dX0_keep_8 (by decide) ?_
  replace hf := obind hf
  obtain ⟨S5, e6, hf⟩ := hf
  refine q_putI (pc := 9) dX0_keep_9 pX0_15 rfl e6 ?_
  refine r_iload_n (pc := 12) dX0_keep_12 rfl ?_
  refine r_bipush (pc := 13) (30 : Int32) dX0_keep_13 (by decide) ?_
  refine r_icmp_eq (pc := 15) 24 dX0_keep_15 (by decide) (fun hc => ?_) (fun hc => ?_)
  · rw [if_pos hc] at hf
    refine gW.mono (mc := 0) (ms := 0) ?_ (fun _ _ _ q => q) (by decide) (by decide)
    exact gW.weak (by simp [gle]) (W_X0_keep_24 S5 a0 a2 a3 r hf hk)
  · rw [if_neg hc] at hf
    refine r_iload_n (pc := 18) dX0_keep_18 rfl ?_
    refine r_bipush (pc := 19) (60 : Int32) dX0_keep_19 (by decide) ?_
    refine r_icmp_ne (pc := 21) 47 dX0_keep_21 (by decide) (fun hc => ?_) (fun hc => ?_)
    · rw [if_pos hc] at hf
      refine gW.mono (mc := 0) (ms := 0) ?_ (fun _ _ _ q => q) (by decide) (by decide)
      exact gW.weak (by simp [gle]) (W_X0_keep_47 S5 a0 a3 r hf hk)
    · rw [if_neg hc] at hf
      refine gW.mono (mc := 0) (ms := 0) ?_ (fun _ _ _ q => q) (by decide) (by decide)
      exact gW.weak (by simp [gle]) (W_X0_keep_24 S5 a0 a2 a3 r hf hk)
def F_X1_init (S : pS) (a0 : Nat) : Option (pS) := (oPA (oNew S (.inl (.int, 5, .inl (fun _ => 0)))) a0 1 0 S.1).bind fun S1 => (oPA (oNew S1 (.inl (.boolean, 5, .inl (fun _ => 0)))) a0 1 1 S1.1).bind fun S3 => (oPA (oNew S3 (.inl (.int, 5, .inl (fun _ => 0)))) a0 1 2 S3.1).bind fun S5 => (oPA (oNew S5 (.inl (.char, 50, .inl (fun _ => 0)))) a0 1 3 S5.1).bind fun S7 => (oPA (oNew S7 (.inl (.int, 5, .inl (fun _ => 0)))) a0 1 4 S7.1).bind fun S9 => (oPI S9 a0 1 5 (0 : Int32)).bind fun S11 => some S11
set_option maxRecDepth 100000 in
set_option maxHeartbeats 4000000 in
theorem C_X1_init {X : pX} {Q : pO → Nat → pF → Prop} (S : pS) (a0 : Nat) (r : pS) (hf : F_X1_init S a0 = some r) (hk : Q (.inl none) r.1 r.2) : gC X mX1_init [.ref a0] S.1 S.2 Q 5 70 := by
  refine gC_of (by decide) (Nat.le_of_ble_eq_true rfl) rfl ?_
  change gW _ _ _ [some (.ref a0)] _ _ _ _ _ _
  unfold F_X1_init at hf
  refine r_aload_n (pc := 0) dX1_init_0 rfl ?_
  refine r_objInit (pc := 1) dX1_init_1 kX1_3 k_obj.1 k_obj.2 ⟨by decide, Nat.le_of_ble_eq_true rfl⟩ ?_
  refine r_aload_n (pc := 4) dX1_init_4 rfl ?_
  refine r_iconst (pc := 5) (5 : Int32) dX1_init_5 (by decide) ?_
  refine r_newa (pc := 6) .int .int (5, .inl (fun _ => 0)) dX1_init_6 rfl (by decide) k_arr_int (fun _ => rfl) (fun _ => rfl) (by decide) (by decide) (by decide) (mc2 := 4) (ms2 := 65) (by decide) (by decide) ?_
  change gW _ _ _ _ _ (oNew S (.inl (.int, 5, .inl (fun _ => 0)))).1 (oNew S (.inl (.int, 5, .inl (fun _ => 0)))).2 _ _ _
  replace hf := obind hf
  obtain ⟨S1, e2, hf⟩ := hf
  refine q_putAF (pc := 8) dX1_init_8 pX1_9 (Or.inr ⟨_, rfl⟩) rfl e2 ?_
  refine r_aload_n (pc := 11) dX1_init_11 rfl ?_
  refine r_iconst (pc := 12) (5 : Int32) dX1_init_12 (by decide) ?_
  refine r_newa (pc := 13) .boolean .boolean (5, .inl (fun _ => 0)) dX1_init_13 rfl (by decide) k_arr_boolean (fun _ => rfl) (fun _ => rfl) (by decide) (by decide) (by decide) (mc2 := 3) (ms2 := 60) (by decide) (by decide) ?_
  change gW _ _ _ _ _ (oNew S1 (.inl (.boolean, 5, .inl (fun _ => 0)))).1 (oNew S1 (.inl (.boolean, 5, .inl (fun _ => 0)))).2 _ _ _
  replace hf := obind hf
  obtain ⟨S3, e4, hf⟩ := hf
  refine q_putAF (pc := 15) dX1_init_15 pX1_15 (Or.inr ⟨_, rfl⟩) rfl e4 ?_
  refine r_aload_n (pc := 18) dX1_init_18 rfl ?_
  refine r_iconst (pc := 19) (5 : Int32) dX1_init_19 (by decide) ?_
  refine r_newa (pc := 20) .int .int (5, .inl (fun _ => 0)) dX1_init_20 rfl (by decide) k_arr_int (fun _ => rfl) (fun _ => rfl) (by decide) (by decide) (by decide) (mc2 := 2) (ms2 := 55) (by decide) (by decide) ?_
  change gW _ _ _ _ _ (oNew S3 (.inl (.int, 5, .inl (fun _ => 0)))).1 (oNew S3 (.inl (.int, 5, .inl (fun _ => 0)))).2 _ _ _
  replace hf := obind hf
  obtain ⟨S5, e6, hf⟩ := hf
  refine q_putAF (pc := 22) dX1_init_22 pX1_19 (Or.inr ⟨_, rfl⟩) rfl e6 ?_
  refine r_aload_n (pc := 25) dX1_init_25 rfl ?_
  refine r_bipush (pc := 26) (50 : Int32) dX1_init_26 (by decide) ?_
  refine r_newa (pc := 28) .char .char (50, .inl (fun _ => 0)) dX1_init_28 rfl (by decide) k_arr_char (fun _ => rfl) (fun _ => rfl) (by decide) (by decide) (by decide) (mc2 := 1) (ms2 := 5) (by decide) (by decide) ?_
  change gW _ _ _ _ _ (oNew S5 (.inl (.char, 50, .inl (fun _ => 0)))).1 (oNew S5 (.inl (.char, 50, .inl (fun _ => 0)))).2 _ _ _
  replace hf := obind hf
  obtain ⟨S7, e8, hf⟩ := hf
  refine q_putAF (pc := 30) dX1_init_30 pX1_22 (Or.inr ⟨_, rfl⟩) rfl e8 ?_
  refine r_aload_n (pc := 33) dX1_init_33 rfl ?_
  refine r_iconst (pc := 34) (5 : Int32) dX1_init_34 (by decide) ?_
  refine r_newa (pc := 35) .int .int (5, .inl (fun _ => 0)) dX1_init_35 rfl (by decide) k_arr_int (fun _ => rfl) (fun _ => rfl) (by decide) (by decide) (by decide) (mc2 := 0) (ms2 := 0) (by decide) (by decide) ?_
  change gW _ _ _ _ _ (oNew S7 (.inl (.int, 5, .inl (fun _ => 0)))).1 (oNew S7 (.inl (.int, 5, .inl (fun _ => 0)))).2 _ _ _
  replace hf := obind hf
  obtain ⟨S9, e10, hf⟩ := hf
  refine q_putAF (pc := 37) dX1_init_37 pX1_26 (Or.inr ⟨_, rfl⟩) rfl e10 ?_
  refine r_aload_n (pc := 40) dX1_init_40 rfl ?_
  refine r_iconst (pc := 41) (0 : Int32) dX1_init_41 (by decide) ?_
  replace hf := obind hf
  obtain ⟨S11, e12, hf⟩ := hf
  refine q_putI (pc := 42) dX1_init_42 pX1_29 rfl e12 ?_
  refine r_return (pc := 45) dX1_init_45 rfl ?_
  cases hf
  exact hk
def F_X1_size (S : pS) (a0 : Nat) : Option (Int32) := (oF S a0 1).bind fun _ => (oGI S a0 1 5).bind fun x1 => some x1
set_option maxRecDepth 100000 in
set_option maxHeartbeats 4000000 in
theorem C_X1_size {X : pX} {Q : pO → Nat → pF → Prop} (S : pS) (a0 : Nat) (r : Int32) (hf : F_X1_size S a0 = some r) (hk : Q (.inl (some (.int r))) S.1 S.2) : gC X mX1_size [.ref a0] S.1 S.2 Q 0 0 := by
  refine gC_of (by decide) (Nat.le_of_ble_eq_true rfl) rfl ?_
  change gW _ _ _ [some (.ref a0)] _ _ _ _ _ _
  unfold F_X1_size at hf
  obtain ⟨_, _, hf⟩ := obind hf
  refine r_aload_n (pc := 0) dX1_size_0 rfl ?_
  replace hf := obind hf
  obtain ⟨x1, e2, hf⟩ := hf
  refine q_getI (pc := 1) dX1_size_1 gX1_29 e2 ?_
  refine r_ireturn (pc := 4) .int dX1_size_4 rfl rfl ?_
  cases hf
  exact hk
def F_X1_forget (S : pS) (a0 : Nat) : Option (pS) := (oF S a0 1).bind fun _ => (oPI S a0 1 5 (0 : Int32)).bind fun S1 => some S1
set_option maxRecDepth 100000 in
set_option maxHeartbeats 4000000 in
theorem C_X1_forget {X : pX} {Q : pO → Nat → pF → Prop} (S : pS) (a0 : Nat) (r : pS) (hf : F_X1_forget S a0 = some r) (hk : Q (.inl none) r.1 r.2) : gC X mX1_forget [.ref a0] S.1 S.2 Q 0 0 := by
  refine gC_of (by decide) (Nat.le_of_ble_eq_true rfl) rfl ?_
  change gW _ _ _ [some (.ref a0)] _ _ _ _ _ _
  unfold F_X1_forget at hf
  obtain ⟨_, _, hf⟩ := obind hf
  refine r_aload_n (pc := 0) dX1_forget_0 rfl ?_
  refine r_iconst (pc := 1) (0 : Int32) dX1_forget_1 (by decide) ?_
  replace hf := obind hf
  obtain ⟨S1, e2, hf⟩ := hf
  refine q_putI (pc := 2) dX1_forget_2 pX1_29 rfl e2 ?_
  refine r_return (pc := 5) dX1_forget_5 rfl ?_
  cases hf
  exact hk
def F_X7_start (S : pS) (a0 : Nat) : Option (pS) := (oF S a0 7).bind fun _ => (oPI S a0 7 2 (0 : Int32)).bind fun S1 => some S1
set_option maxRecDepth 100000 in
set_option maxHeartbeats 4000000 in
theorem C_X7_start {X : pX} {Q : pO → Nat → pF → Prop} (S : pS) (a0 : Nat) (r : pS) (hf : F_X7_start S a0 = some r) (hk : Q (.inl none) r.1 r.2) : gC X mX7_start [.ref a0] S.1 S.2 Q 0 0 := by
  refine gC_of (by decide) (Nat.le_of_ble_eq_true rfl) rfl ?_
  change gW _ _ _ [some (.ref a0)] _ _ _ _ _ _
  unfold F_X7_start at hf
  obtain ⟨_, _, hf⟩ := obind hf
  refine r_aload_n (pc := 0) dX7_start_0 rfl ?_
  refine r_iconst (pc := 1) (0 : Int32) dX7_start_1 (by decide) ?_
  replace hf := obind hf
  obtain ⟨S1, e2, hf⟩ := hf
  refine q_putI (pc := 2) dX7_start_2 pX7_19 rfl e2 ?_
  refine r_return (pc := 5) dX7_start_5 rfl ?_
  cases hf
  exact hk
def F_X7_next (S : pS) (a0 : Nat) : Option (Int32) := (oF S a0 7).bind fun _ => (oGI S a0 7 2).bind fun x1 => (oGI S a0 7 1).bind fun x3 => if x3 ≤ x1 then ((oC (0 : Int32)).bind fun x5 => some x5) else ((oGA S a0 7 0).bind fun x7 => (oGI S a0 7 2).bind fun x9 => (oAI S x7 .char x9).bind fun x11 => (oC x11).bind fun x13 => some x13)
set_option maxRecDepth 100000 in
set_option maxHeartbeats 4000000 in
theorem C_X7_next {X : pX} {Q : pO → Nat → pF → Prop} (S : pS) (a0 : Nat) (r : Int32) (hf : F_X7_next S a0 = some r) (hk : Q (.inl (some (.int r))) S.1 S.2) : gC X mX7_next [.ref a0] S.1 S.2 Q 0 0 := by
  refine gC_of (by decide) (Nat.le_of_ble_eq_true rfl) rfl ?_
  change gW _ _ _ [some (.ref a0)] _ _ _ _ _ _
  unfold F_X7_next at hf
  obtain ⟨_, _, hf⟩ := obind hf
  refine r_aload_n (pc := 0) dX7_next_0 rfl ?_
  replace hf := obind hf
  obtain ⟨x1, e2, hf⟩ := hf
  refine q_getI (pc := 1) dX7_next_1 gX7_19 e2 ?_
  refine r_aload_n (pc := 4) dX7_next_4 rfl ?_
  replace hf := obind hf
  obtain ⟨x3, e4, hf⟩ := hf
  refine q_getI (pc := 5) dX7_next_5 gX7_15 e4 ?_
  refine r_icmp_ge (pc := 8) 23 dX7_next_8 (by decide) (fun hc => ?_) (fun hc => ?_)
  · rw [if_pos hc] at hf
    refine r_iconst (pc := 23) (0 : Int32) dX7_next_23 (by decide) ?_
    replace hf := obind hf
    obtain ⟨x5, e6, hf⟩ := hf
    obtain ⟨e6a, e6b⟩ := oC_some e6
    rw [e6a] at hf
    refine r_ireturn (pc := 24) .char dX7_next_24 rfl e6b ?_
    cases hf
    exact hk
  · rw [if_neg hc] at hf
    refine r_aload_n (pc := 11) dX7_next_11 rfl ?_
    replace hf := obind hf
    obtain ⟨x7, e8, hf⟩ := hf
    refine q_getA (pc := 12) dX7_next_12 gX7_9 e8 ?_
    refine r_aload_n (pc := 15) dX7_next_15 rfl ?_
    replace hf := obind hf
    obtain ⟨x9, e10, hf⟩ := hf
    refine q_getI (pc := 16) dX7_next_16 gX7_19 e10 ?_
    replace hf := obind hf
    obtain ⟨x11, e12, hf⟩ := hf
    refine q_cald (pc := 19) dX7_next_19 e12 ?_
    refine r_goto (pc := 20) 24 dX7_next_20 (by decide) ?_
    replace hf := obind hf
    obtain ⟨x13, e14, hf⟩ := hf
    obtain ⟨e14a, e14b⟩ := oC_some e14
    rw [e14a] at hf
    refine r_ireturn (pc := 24) .char dX7_next_24 rfl e14b ?_
    cases hf
    exact hk
def F_X7_take (S : pS) (a0 : Nat) (a1 : Int32) : Option (Int32 × pS) := (oF S a0 7).bind fun _ => (F_X7_next S a0).bind fun q1 => if q1 = a1 then ((oGI S a0 7 2).bind fun x3 => (oPI S a0 7 2 (x3 + (1 : Int32))).bind fun S5 => some ((1 : Int32), S5)) else (some ((0 : Int32), S))
set_option maxRecDepth 100000 in
set_option maxHeartbeats 4000000 in
theorem C_X7_take {X : pX} {Q : pO → Nat → pF → Prop} (S : pS) (a0 : Nat) (a1 : Int32) (r : Int32 × pS) (hf : F_X7_take S a0 a1 = some r) (hk : Q (.inl (some (.int r.1))) r.2.1 r.2.2) : gC X mX7_take [.ref a0, .int a1] S.1 S.2 Q 0 0 := by
  refine gC_of (by decide) (Nat.le_of_ble_eq_true rfl) rfl ?_
  change gW _ _ _ [some (.ref a0), some (.int a1)] _ _ _ _ _ _
  unfold F_X7_take at hf
  obtain ⟨_, _, hf⟩ := obind hf
  refine r_aload_n (pc := 0) dX7_take_0 rfl ?_
  replace hf := obind hf
  obtain ⟨q1, e2, hf⟩ := hf
  refine q_callV (pc := 1) (v := some (.int q1)) (S' := S) mX7_next 7 [] dX7_take_1 kX7_22 fX7_next iX7_next ⟨by decide, by decide⟩ rfl rfl rfl (Nat.le_of_ble_eq_true rfl) (og e2) (mc1 := 0) (ms1 := 0) (mc2 := 0) (ms2 := 0) (by decide) (by decide) (C_X7_next S a0 q1 e2 (qR_mk _ _)) ?_
  change gW _ _ _ _ (.int q1 :: _) _ _ _ _ _
  refine r_iload_n (pc := 4) dX7_take_4 rfl ?_
  refine r_icmp_eq (pc := 5) 10 dX7_take_5 (by decide) (fun hc => ?_) (fun hc => ?_)
  · rw [if_pos hc] at hf
    refine r_aload_n (pc := 10) dX7_take_10 rfl ?_
    refine r_dup (pc := 11) dX7_take_11 rfl ?_
    replace hf := obind hf
    obtain ⟨x3, e4, hf⟩ := hf
    refine q_getI (pc := 12) dX7_take_12 gX7_19 e4 ?_
    refine r_iconst (pc := 15) (1 : Int32) dX7_take_15 (by decide) ?_
    refine r_iadd (pc := 16) dX7_take_16 ?_
    replace hf := obind hf
    obtain ⟨S5, e6, hf⟩ := hf
    refine q_putI (pc := 17) dX7_take_17 pX7_19 rfl e6 ?_
    refine r_iconst (pc := 20) (1 : Int32) dX7_take_20 (by decide) ?_
    refine r_ireturn (pc := 21) .boolean dX7_take_21 rfl rfl ?_
    cases hf
    exact hk
  · rw [if_neg hc] at hf
    refine r_iconst (pc := 8) (0 : Int32) dX7_take_8 (by decide) ?_
    refine r_ireturn (pc := 9) .boolean dX7_take_9 rfl rfl ?_
    cases hf
    exact hk
abbrev L_X7_takeWord_2 (l0 : Nat) (l1 : Nat) : Int32 × pS → List (Option Value) := fun a => [some (.ref l0), some (.retAddr l1), some (.int a.1)]
abbrev s_X7_takeWord_2 (l0 : Nat) (l1 : Nat) : Int32 × pS → pS := fun a => a.2
abbrev K_X7_takeWord_2 (X : pX) (Q : pO → Nat → pF → Prop) (mc ms : Nat) (l0 : Nat) (l1 : Nat) : (pS) ⊕ (pS) → Prop := (Sum.elim (fun b => gW X mX7_takeWord 22 [some (.ref l0), some (.retAddr l1), none] [] b.1 b.2 Q mc ms) (fun b => gW X mX7_takeWord 30 [some (.ref l0), some (.retAddr l1), none] [] b.1 b.2 Q mc ms))
def F_X7_takeWord_2 (l0 : Nat) (l1 : Nat) : Int32 × pS → Option ((Int32 × pS) ⊕ ((pS) ⊕ (pS))) := fun a => (oLen l1).bind fun x1 => if x1 ≤ a.1 then (some (.inr (.inr a.2))) else ((oChr l1 a.1).bind fun x3 => (F_X7_take a.2 l0 x3).bind fun q5 => if ¬ q5.1 = 0 then (some (.inl (a.1 + (1 : Int32), q5.2))) else (some (.inr (.inl q5.2))))
set_option maxRecDepth 100000 in
set_option maxHeartbeats 4000000 in
theorem W_X7_takeWord_2 {X : pX} {Q : pO → Nat → pF → Prop} {mc ms : Nat} (l0 : Nat) (l1 : Nat) : ∀ (a : Int32 × pS) (r : (Int32 × pS) ⊕ ((pS) ⊕ (pS))), F_X7_takeWord_2 l0 l1 a = some r → Sum.elim (fun a' => gW X mX7_takeWord 2 (L_X7_takeWord_2 l0 l1 a') [] (s_X7_takeWord_2 l0 l1 a').1 (s_X7_takeWord_2 l0 l1 a').2 Q mc ms) (K_X7_takeWord_2 X Q mc ms l0 l1) r → gW X mX7_takeWord 2 (L_X7_takeWord_2 l0 l1 a) [] (s_X7_takeWord_2 l0 l1 a).1 (s_X7_takeWord_2 l0 l1 a).2 Q mc ms := by
  intro a r hf hk
  obtain ⟨l2, S⟩ := a
  unfold F_X7_takeWord_2 at hf
  try dsimp only at hf
  change gW _ _ _ [some (.ref l0), some (.retAddr l1), some (.int l2)] _ S.1 S.2 _ _ _
  refine r_iload_n (pc := 2) dX7_takeWord_2 rfl ?_
  refine r_xload_n (pc := 3) dX7_takeWord_3 rfl ?_
  replace hf := obind hf
  obtain ⟨x1, e2, hf⟩ := hf
  refine q_len (pc := 4) dX7_takeWord_4 kX7_26 ⟨by decide, by decide⟩ (Nat.le_of_ble_eq_true rfl) (by omega) (by omega) e2 ?_
  refine r_icmp_ge (pc := 7) 30 dX7_takeWord_7 (by decide) (fun hc => ?_) (fun hc => ?_)
  · rw [if_pos hc] at hf
    cases hf
    exact gW.weak (by simp [gle]) hk
  · rw [if_neg hc] at hf
    refine r_aload_n (pc := 10) dX7_takeWord_10 rfl ?_
    refine r_xload_n (pc := 11) dX7_takeWord_11 rfl ?_
    refine r_iload_n (pc := 12) dX7_takeWord_12 rfl ?_
    replace hf := obind hf
    obtain ⟨x3, e4, hf⟩ := hf
    refine q_chr (pc := 13) dX7_takeWord_13 kX7_32 ⟨by decide, by decide⟩ (Nat.le_of_ble_eq_true rfl) (by omega) (by omega) e4 ?_
    replace hf := obind hf
    obtain ⟨q5, e6, hf⟩ := hf
    refine q_callV (pc := 16) (v := some (.int q5.1)) (S' := q5.2) mX7_take 7 [.int x3] dX7_takeWord_16 kX7_36 fX7_take iX7_take ⟨by decide, by decide⟩ rfl rfl rfl (Nat.le_of_ble_eq_true rfl) (og e6) (mc1 := 0) (ms1 := 0) (mc2 := mc) (ms2 := ms) (by omega) (by omega) (C_X7_take S l0 x3 q5 e6 (qR_mk _ _)) ?_
    change gW _ _ _ _ (.int q5.1 :: _) _ _ _ _ _
    refine r_if_ne (pc := 19) 24 dX7_takeWord_19 (by decide) (fun hc => ?_) (fun hc => ?_)
    · rw [if_pos hc] at hf
      refine r_iinc (pc := 24) dX7_takeWord_24 rfl (by decide) ?_
      change gW _ _ _ [some (.ref l0), some (.retAddr l1), some (.int (l2 + (1 : Int32)))] _ _ _ _ _ _
      refine r_goto (pc := 27) 2 dX7_takeWord_27 (by decide) ?_
      cases hf
      exact gW.weak (by simp [gle]) hk
    · rw [if_neg hc] at hf
      cases hf
      exact gW.weak (by simp [gle]) hk
def F_X7_takeWord (S : pS) (a0 : Nat) (a1 : Nat) : Option (Int32 × pS) := (oF S a0 7).bind fun _ => (iter (F_X7_takeWord_2 a0 a1) fu ((0 : Int32), S)).bind fun r7 => Sum.elim (fun q9 => some ((0 : Int32), q9)) (fun q9 => some ((1 : Int32), q9)) r7
set_option maxRecDepth 100000 in
set_option maxHeartbeats 4000000 in
theorem C_X7_takeWord {X : pX} {Q : pO → Nat → pF → Prop} (S : pS) (a0 : Nat) (a1 : Nat) (r : Int32 × pS) (hf : F_X7_takeWord S a0 a1 = some r) (hk : Q (.inl (some (.int r.1))) r.2.1 r.2.2) : gC X mX7_takeWord [.ref a0, .retAddr a1] S.1 S.2 Q 0 0 := by
  refine gC_of (by decide) (Nat.le_of_ble_eq_true rfl) rfl ?_
  change gW _ _ _ [some (.ref a0), some (.retAddr a1), none] _ _ _ _ _ _
  unfold F_X7_takeWord at hf
  obtain ⟨_, _, hf⟩ := obind hf
  refine r_iconst (pc := 0) (0 : Int32) dX7_takeWord_0 (by decide) ?_
  refine r_istore_n (pc := 1) dX7_takeWord_1 (by decide) ?_
  change gW _ _ _ [some (.ref a0), some (.retAddr a1), some (.int (0 : Int32))] _ _ _ _ _ _
  replace hf := obind hf
  obtain ⟨r7, e8, hf⟩ := hf
  refine gW.weak (ls' := [some (.ref a0), some (.retAddr a1), some (.int (0 : Int32))]) (by simp [gle]) ?_
  refine g_iter (L := L_X7_takeWord_2 a0 a1) (s := s_X7_takeWord_2 a0 a1) (K := K_X7_takeWord_2 X Q _ _ a0 a1) (W_X7_takeWord_2 a0 a1) fu ((0 : Int32), S) _ e8 ?_
  rcases r7 with q9 | q9
  · simp only [Sum.elim_inl, Sum.elim_inr] at hf
    show gW _ _ 22 [some (.ref a0), some (.retAddr a1), none] [] q9.1 q9.2 _ _ _
    refine r_iconst (pc := 22) (0 : Int32) dX7_takeWord_22 (by decide) ?_
    refine r_ireturn (pc := 23) .boolean dX7_takeWord_23 rfl rfl ?_
    cases hf
    exact hk
  · simp only [Sum.elim_inl, Sum.elim_inr] at hf
    show gW _ _ 30 [some (.ref a0), some (.retAddr a1), none] [] q9.1 q9.2 _ _ _
    refine r_iconst (pc := 30) (1 : Int32) dX7_takeWord_30 (by decide) ?_
    refine r_ireturn (pc := 31) .boolean dX7_takeWord_31 rfl rfl ?_
    cases hf
    exact hk
def F_X1_readDoneOrDated_42 (S : pS) (t0 : Nat) (t1 : Nat) : Option (Int32 × pS) := (F_X7_takeWord S t0 t1).bind fun q7 => (oZ q7.1).bind fun x9 => some (x9, q7.2)
set_option maxRecDepth 100000 in
set_option maxHeartbeats 4000000 in
theorem W_X1_readDoneOrDated_42 {X : pX} {Q : pO → Nat → pF → Prop} (S : pS) (t0 : Nat) (t1 : Nat) (r : Int32 × pS) (hf : F_X1_readDoneOrDated_42 S t0 t1 = some r) (hk : Q (.inl (some (.int r.1))) r.2.1 r.2.2) : gW X mX1_readDoneOrDated 42 [none, none, none, none] [.retAddr t1, .ref t0] S.1 S.2 Q 0 0 := by
  unfold F_X1_readDoneOrDated_42 at hf
  replace hf := obind hf
  obtain ⟨q7, e8, hf⟩ := hf
  refine q_callV (pc := 42) (v := some (.int q7.1)) (S' := q7.2) mX7_takeWord 7 [.retAddr t1] dX1_readDoneOrDated_42 kX1_55 fX7_takeWord iX7_takeWord ⟨by decide, by decide⟩ rfl rfl rfl (Nat.le_of_ble_eq_true rfl) (og e8) (mc1 := 0) (ms1 := 0) (mc2 := 0) (ms2 := 0) (by decide) (by decide) (C_X7_takeWord S t0 t1 q7 e8 (qR_mk _ _)) ?_
  change gW _ _ _ _ (.int q7.1 :: _) _ _ _ _ _
  replace hf := obind hf
  obtain ⟨x9, e10, hf⟩ := hf
  obtain ⟨e10a, e10b⟩ := oZ_some e10
  rw [e10a] at hf
  refine r_ireturn (pc := 45) .boolean dX1_readDoneOrDated_45 rfl e10b ?_
  cases hf
  exact hk
def F_X1_readDoneOrDated_29 (S : pS) (l1 : Nat) (l3 : Int32) (t0 : Nat) (t1 : Int32) (t2 : Int32) : Option (Int32 × pS) := (oSI S t0 .int t1 t2).bind fun S5 => if l3 = 0 then (F_X1_readDoneOrDated_42 S5 l1 2) else (F_X1_readDoneOrDated_42 S5 l1 1)
set_option maxRecDepth 100000 in
set_option maxHeartbeats 4000000 in
theorem W_X1_readDoneOrDated_29 {X : pX} {Q : pO → Nat → pF → Prop} (S : pS) (l1 : Nat) (l3 : Int32) (t0 : Nat) (t1 : Int32) (t2 : Int32) (r : Int32 × pS) (hf : F_X1_readDoneOrDated_29 S l1 l3 t0 t1 t2 = some r) (hk : Q (.inl (some (.int r.1))) r.2.1 r.2.2) : gW X mX1_readDoneOrDated 29 [none, some (.ref l1), none, some (.int l3)] [.int t2, .int t1, .ref t0] S.1 S.2 Q 0 0 := by
  unfold F_X1_readDoneOrDated_29 at hf
  replace hf := obind hf
  obtain ⟨S5, e6, hf⟩ := hf
  refine q_iast (pc := 29) dX1_readDoneOrDated_29 e6 ?_
  refine r_aload_n (pc := 30) dX1_readDoneOrDated_30 rfl ?_
  refine r_iload_n (pc := 31) dX1_readDoneOrDated_31 rfl ?_
  refine r_if_eq (pc := 32) 40 dX1_readDoneOrDated_32 (by decide) (fun hc => ?_) (fun hc => ?_)
  · rw [if_pos hc] at hf
    refine r_ldcS (pc := 40) 1 dX1_readDoneOrDated_40 rfl ?_
    refine gW.mono (mc := 0) (ms := 0) ?_ (fun _ _ _ q => q) (by decide) (by decide)
    exact gW.weak (by simp [gle]) (W_X1_readDoneOrDated_42 S5 l1 2 r hf hk)
  · rw [if_neg hc] at hf
    refine r_ldcS (pc := 35) 0 dX1_readDoneOrDated_35 rfl ?_
    refine r_goto (pc := 37) 42 dX1_readDoneOrDated_37 (by decide) ?_
    refine gW.mono (mc := 0) (ms := 0) ?_ (fun _ _ _ q => q) (by decide) (by decide)
    exact gW.weak (by simp [gle]) (W_X1_readDoneOrDated_42 S5 l1 1 r hf hk)
def F_X1_readDoneOrDated_14 (S : pS) (l0 : Nat) (l1 : Nat) (l2 : Int32) (t0 : Int32) : Option (Int32 × pS) := (oGA S l0 1 0).bind fun x3 => if t0 = 0 then (F_X1_readDoneOrDated_29 S l1 t0 x3 l2 (1 : Int32)) else (F_X1_readDoneOrDated_29 S l1 t0 x3 l2 (0 : Int32))
set_option maxRecDepth 100000 in
set_option maxHeartbeats 4000000 in
theorem W_X1_readDoneOrDated_14 {X : pX} {Q : pO → Nat → pF → Prop} (S : pS) (l0 : Nat) (l1 : Nat) (l2 : Int32) (t0 : Int32) (r : Int32 × pS) (hf : F_X1_readDoneOrDated_14 S l0 l1 l2 t0 = some r) (hk : Q (.inl (some (.int r.1))) r.2.1 r.2.2) : gW X mX1_readDoneOrDated 14 [some (.ref l0), some (.ref l1), some (.int l2), none] [.int t0] S.1 S.2 Q 0 0 := by
  unfold F_X1_readDoneOrDated_14 at hf
  refine r_istore_n (pc := 14) dX1_readDoneOrDated_14 (by decide) ?_
  change gW _ _ _ [some (.ref l0), some (.ref l1), some (.int l2), some (.int t0)] _ _ _ _ _ _
  refine r_aload_n (pc := 15) dX1_readDoneOrDated_15 rfl ?_
  replace hf := obind hf
  obtain ⟨x3, e4, hf⟩ := hf
  refine q_getA (pc := 16) dX1_readDoneOrDated_16 gX1_9 e4 ?_
  refine r_iload_n (pc := 19) dX1_readDoneOrDated_19 rfl ?_
  refine r_iload_n (pc := 20) dX1_readDoneOrDated_20 rfl ?_
  refine r_if_eq (pc := 21) 28 dX1_readDoneOrDated_21 (by decide) (fun hc => ?_) (fun hc => ?_)
  · rw [if_pos hc] at hf
    refine r_iconst (pc := 28) (1 : Int32) dX1_readDoneOrDated_28 (by decide) ?_
    refine gW.mono (mc := 0) (ms := 0) ?_ (fun _ _ _ q => q) (by decide) (by decide)
    exact gW.weak (by simp [gle]) (W_X1_readDoneOrDated_29 S l1 t0 x3 l2 (1 : Int32) r hf hk)
  · rw [if_neg hc] at hf
    refine r_iconst (pc := 24) (0 : Int32) dX1_readDoneOrDated_24 (by decide) ?_
    refine r_goto (pc := 25) 29 dX1_readDoneOrDated_25 (by decide) ?_
    refine gW.mono (mc := 0) (ms := 0) ?_ (fun _ _ _ q => q) (by decide) (by decide)
    exact gW.weak (by simp [gle]) (W_X1_readDoneOrDated_29 S l1 t0 x3 l2 (0 : Int32) r hf hk)
def F_X1_readDoneOrDated (S : pS) (a0 : Nat) (a1 : Nat) (a2 : Int32) : Option (Int32 × pS) := (oF S a0 1).bind fun _ => (F_X7_next S a1).bind fun q1 => if ¬ q1 = (111 : Int32) then (F_X1_readDoneOrDated_14 S a0 a1 a2 (0 : Int32)) else (F_X1_readDoneOrDated_14 S a0 a1 a2 (1 : Int32))
set_option maxRecDepth 100000 in
set_option maxHeartbeats 4000000 in
theorem C_X1_readDoneOrDated {X : pX} {Q : pO → Nat → pF → Prop} (S : pS) (a0 : Nat) (a1 : Nat) (a2 : Int32) (r : Int32 × pS) (hf : F_X1_readDoneOrDated S a0 a1 a2 = some r) (hk : Q (.inl (some (.int r.1))) r.2.1 r.2.2) : gC X mX1_readDoneOrDated [.ref a0, .ref a1, .int a2] S.1 S.2 Q 0 0 := by
  refine gC_of (by decide) (Nat.le_of_ble_eq_true rfl) rfl ?_
  change gW _ _ _ [some (.ref a0), some (.ref a1), some (.int a2), none] _ _ _ _ _ _
  unfold F_X1_readDoneOrDated at hf
  obtain ⟨_, _, hf⟩ := obind hf
  refine r_aload_n (pc := 0) dX1_readDoneOrDated_0 rfl ?_
  replace hf := obind hf
  obtain ⟨q1, e2, hf⟩ := hf
  refine q_callV (pc := 1) (v := some (.int q1)) (S' := S) mX7_next 7 [] dX1_readDoneOrDated_1 kX1_68 fX7_next iX7_next ⟨by decide, by decide⟩ rfl rfl rfl (Nat.le_of_ble_eq_true rfl) (og e2) (mc1 := 0) (ms1 := 0) (mc2 := 0) (ms2 := 0) (by decide) (by decide) (C_X7_next S a1 q1 e2 (qR_mk _ _)) ?_
  change gW _ _ _ _ (.int q1 :: _) _ _ _ _ _
  refine r_bipush (pc := 4) (111 : Int32) dX1_readDoneOrDated_4 (by decide) ?_
  refine r_icmp_ne (pc := 6) 13 dX1_readDoneOrDated_6 (by decide) (fun hc => ?_) (fun hc => ?_)
  · rw [if_pos hc] at hf
    refine r_iconst (pc := 13) (0 : Int32) dX1_readDoneOrDated_13 (by decide) ?_
    refine gW.mono (mc := 0) (ms := 0) ?_ (fun _ _ _ q => q) (by decide) (by decide)
    exact gW.weak (by simp [gle]) (W_X1_readDoneOrDated_14 S a0 a1 a2 (0 : Int32) r hf hk)
  · rw [if_neg hc] at hf
    refine r_iconst (pc := 9) (1 : Int32) dX1_readDoneOrDated_9 (by decide) ?_
    refine r_goto (pc := 10) 14 dX1_readDoneOrDated_10 (by decide) ?_
    refine gW.mono (mc := 0) (ms := 0) ?_ (fun _ _ _ q => q) (by decide) (by decide)
    exact gW.weak (by simp [gle]) (W_X1_readDoneOrDated_14 S a0 a1 a2 (1 : Int32) r hf hk)
abbrev L_X7_takeNumber_15 (l0 : Nat) (l1 : Int32) : Int32 × Int32 × pS → List (Option Value) := fun a => [some (.ref l0), some (.int l1), some (.int a.1), some (.int a.2.1)]
abbrev s_X7_takeNumber_15 (l0 : Nat) (l1 : Int32) : Int32 × Int32 × pS → pS := fun a => a.2.2
abbrev K_X7_takeNumber_15 (X : pX) (Q : pO → Nat → pF → Prop) (mc ms : Nat) (l0 : Nat) (l1 : Int32) : Int32 × Int32 × pS → Prop := (fun b => gW X mX7_takeNumber 67 [some (.ref l0), some (.int l1), some (.int b.1), some (.int b.2.1)] [] b.2.2.1 b.2.2.2 Q mc ms)
def F_X7_takeNumber_15 (l0 : Nat) (l1 : Int32) : Int32 × Int32 × pS → Option ((Int32 × Int32 × pS) ⊕ (Int32 × Int32 × pS)) := fun a => if l1 ≤ a.2.1 then (some (.inr (a.1, a.2.1, a.2.2))) else ((F_X7_next a.2.2 l0).bind fun q3 => if q3 < (48 : Int32) then (some (.inr (a.1, a.2.1, a.2.2))) else ((F_X7_next a.2.2 l0).bind fun q5 => if (57 : Int32) < q5 then (some (.inr (a.1, a.2.1, a.2.2))) else ((F_X7_next a.2.2 l0).bind fun q7 => (oGI a.2.2 l0 7 2).bind fun x9 => (oPI a.2.2 l0 7 2 (x9 + (1 : Int32))).bind fun S11 => some (.inl ((a.1 * (10 : Int32)) + (q7 - (48 : Int32)), a.2.1 + (1 : Int32), S11)))))
set_option maxRecDepth 100000 in
set_option maxHeartbeats 4000000 in
theorem W_X7_takeNumber_15 {X : pX} {Q : pO → Nat → pF → Prop} {mc ms : Nat} (l0 : Nat) (l1 : Int32) : ∀ (a : Int32 × Int32 × pS) (r : (Int32 × Int32 × pS) ⊕ (Int32 × Int32 × pS)), F_X7_takeNumber_15 l0 l1 a = some r → Sum.elim (fun a' => gW X mX7_takeNumber 15 (L_X7_takeNumber_15 l0 l1 a') [] (s_X7_takeNumber_15 l0 l1 a').1 (s_X7_takeNumber_15 l0 l1 a').2 Q mc ms) (K_X7_takeNumber_15 X Q mc ms l0 l1) r → gW X mX7_takeNumber 15 (L_X7_takeNumber_15 l0 l1 a) [] (s_X7_takeNumber_15 l0 l1 a).1 (s_X7_takeNumber_15 l0 l1 a).2 Q mc ms := by
  intro a r hf hk
  obtain ⟨l2, l3, S⟩ := a
  unfold F_X7_takeNumber_15 at hf
  try dsimp only at hf
  change gW _ _ _ [some (.ref l0), some (.int l1), some (.int l2), some (.int l3)] _ S.1 S.2 _ _ _
  refine r_iload_n (pc := 15) dX7_takeNumber_15 rfl ?_
  refine r_iload_n (pc := 16) dX7_takeNumber_16 rfl ?_
  refine r_icmp_ge (pc := 17) 67 dX7_takeNumber_17 (by decide) (fun hc => ?_) (fun hc => ?_)
  · rw [if_pos hc] at hf
    cases hf
    exact gW.weak (by simp [gle]) hk
  · rw [if_neg hc] at hf
    refine r_aload_n (pc := 20) dX7_takeNumber_20 rfl ?_
    replace hf := obind hf
    obtain ⟨q3, e4, hf⟩ := hf
    refine q_callV (pc := 21) (v := some (.int q3)) (S' := S) mX7_next 7 [] dX7_takeNumber_21 kX7_22 fX7_next iX7_next ⟨by decide, by decide⟩ rfl rfl rfl (Nat.le_of_ble_eq_true rfl) (og e4) (mc1 := 0) (ms1 := 0) (mc2 := mc) (ms2 := ms) (by omega) (by omega) (C_X7_next S l0 q3 e4 (qR_mk _ _)) ?_
    change gW _ _ _ _ (.int q3 :: _) _ _ _ _ _
    refine r_bipush (pc := 24) (48 : Int32) dX7_takeNumber_24 (by decide) ?_
    refine r_icmp_lt (pc := 26) 67 dX7_takeNumber_26 (by decide) (fun hc => ?_) (fun hc => ?_)
    · rw [if_pos hc] at hf
      cases hf
      exact gW.weak (by simp [gle]) hk
    · rw [if_neg hc] at hf
      refine r_aload_n (pc := 29) dX7_takeNumber_29 rfl ?_
      replace hf := obind hf
      obtain ⟨q5, e6, hf⟩ := hf
      refine q_callV (pc := 30) (v := some (.int q5)) (S' := S) mX7_next 7 [] dX7_takeNumber_30 kX7_22 fX7_next iX7_next ⟨by decide, by decide⟩ rfl rfl rfl (Nat.le_of_ble_eq_true rfl) (og e6) (mc1 := 0) (ms1 := 0) (mc2 := mc) (ms2 := ms) (by omega) (by omega) (C_X7_next S l0 q5 e6 (qR_mk _ _)) ?_
      change gW _ _ _ _ (.int q5 :: _) _ _ _ _ _
      refine r_bipush (pc := 33) (57 : Int32) dX7_takeNumber_33 (by decide) ?_
      refine r_icmp_gt (pc := 35) 67 dX7_takeNumber_35 (by decide) (fun hc => ?_) (fun hc => ?_)
      · rw [if_pos hc] at hf
        cases hf
        exact gW.weak (by simp [gle]) hk
      · rw [if_neg hc] at hf
        refine r_iload_n (pc := 38) dX7_takeNumber_38 rfl ?_
        refine r_bipush (pc := 39) (10 : Int32) dX7_takeNumber_39 (by decide) ?_
        refine r_imul (pc := 41) dX7_takeNumber_41 ?_
        refine r_aload_n (pc := 42) dX7_takeNumber_42 rfl ?_
        replace hf := obind hf
        obtain ⟨q7, e8, hf⟩ := hf
        refine q_callV (pc := 43) (v := some (.int q7)) (S' := S) mX7_next 7 [] dX7_takeNumber_43 kX7_22 fX7_next iX7_next ⟨by decide, by decide⟩ rfl rfl rfl (Nat.le_of_ble_eq_true rfl) (og e8) (mc1 := 0) (ms1 := 0) (mc2 := mc) (ms2 := ms) (by omega) (by omega) (C_X7_next S l0 q7 e8 (qR_mk _ _)) ?_
        change gW _ _ _ _ (.int q7 :: _) _ _ _ _ _
        refine r_bipush (pc := 46) (48 : Int32) dX7_takeNumber_46 (by decide) ?_
        refine r_isub (pc := 48) dX7_takeNumber_48 ?_
        refine r_iadd (pc := 49) dX7_takeNumber_49 ?_
        refine r_istore_n (pc := 50) dX7_takeNumber_50 (by decide) ?_
        change gW _ _ _ [some (.ref l0), some (.int l1), some (.int ((l2 * (10 : Int32)) + (q7 - (48 : Int32)))), some (.int l3)] _ _ _ _ _ _
        refine r_iinc (pc := 51) dX7_takeNumber_51 rfl (by decide) ?_
        change gW _ _ _ [some (.ref l0), some (.int l1), some (.int ((l2 * (10 : Int32)) + (q7 - (48 : Int32)))), some (.int (l3 + (1 : Int32)))] _ _ _ _ _ _
        refine r_aload_n (pc := 54) dX7_takeNumber_54 rfl ?_
        refine r_dup (pc := 55) dX7_takeNumber_55 rfl ?_
        replace hf := obind hf
        obtain ⟨x9, e10, hf⟩ := hf
        refine q_getI (pc := 56) dX7_takeNumber_56 gX7_19 e10 ?_
        refine r_iconst (pc := 59) (1 : Int32) dX7_takeNumber_59 (by decide) ?_
        refine r_iadd (pc := 60) dX7_takeNumber_60 ?_
        replace hf := obind hf
        obtain ⟨S11, e12, hf⟩ := hf
        refine q_putI (pc := 61) dX7_takeNumber_61 pX7_19 rfl e12 ?_
        refine r_goto (pc := 64) 15 dX7_takeNumber_64 (by decide) ?_
        cases hf
        exact gW.weak (by simp [gle]) hk
def F_X7_takeNumber_67 (S : pS) (l2 : Int32) (l3 : Int32) : Option (Int32 × pS) := if ¬ l3 = 0 then (some (l2, S)) else (some ((-1000000 : Int32), S))
set_option maxRecDepth 100000 in
set_option maxHeartbeats 4000000 in
theorem W_X7_takeNumber_67 {X : pX} {Q : pO → Nat → pF → Prop} (S : pS) (l2 : Int32) (l3 : Int32) (r : Int32 × pS) (hf : F_X7_takeNumber_67 S l2 l3 = some r) (hk : Q (.inl (some (.int r.1))) r.2.1 r.2.2) : gW X mX7_takeNumber 67 [none, none, some (.int l2), some (.int l3)] [] S.1 S.2 Q 0 0 := by
  unfold F_X7_takeNumber_67 at hf
  refine r_iload_n (pc := 67) dX7_takeNumber_67 rfl ?_
  refine r_if_ne (pc := 68) 76 dX7_takeNumber_68 (by decide) (fun hc => ?_) (fun hc => ?_)
  · rw [if_pos hc] at hf
    refine r_iload_n (pc := 76) dX7_takeNumber_76 rfl ?_
    refine r_ireturn (pc := 77) .int dX7_takeNumber_77 rfl rfl ?_
    cases hf
    exact hk
  · rw [if_neg hc] at hf
    refine r_ldc (pc := 71) dX7_takeNumber_71 kX7_40 ?_
    refine r_goto (pc := 73) 77 dX7_takeNumber_73 (by decide) ?_
    refine r_ireturn (pc := 77) .int dX7_takeNumber_77 rfl rfl ?_
    cases hf
    exact hk
def F_X7_takeNumber (S : pS) (a0 : Nat) (a1 : Int32) : Option (Int32 × pS) := (oF S a0 7).bind fun _ => (F_X7_take S a0 (48 : Int32)).bind fun q1 => if q1.1 = 0 then ((iter (F_X7_takeNumber_15 a0 a1) fu ((0 : Int32), (0 : Int32), q1.2)).bind fun r13 => F_X7_takeNumber_67 r13.2.2 r13.1 r13.2.1) else (some ((0 : Int32), q1.2))
set_option maxRecDepth 100000 in
set_option maxHeartbeats 4000000 in
theorem C_X7_takeNumber {X : pX} {Q : pO → Nat → pF → Prop} (S : pS) (a0 : Nat) (a1 : Int32) (r : Int32 × pS) (hf : F_X7_takeNumber S a0 a1 = some r) (hk : Q (.inl (some (.int r.1))) r.2.1 r.2.2) : gC X mX7_takeNumber [.ref a0, .int a1] S.1 S.2 Q 0 0 := by
  refine gC_of (by decide) (Nat.le_of_ble_eq_true rfl) rfl ?_
  change gW _ _ _ [some (.ref a0), some (.int a1), none, none] _ _ _ _ _ _
  unfold F_X7_takeNumber at hf
  obtain ⟨_, _, hf⟩ := obind hf
  refine r_aload_n (pc := 0) dX7_takeNumber_0 rfl ?_
  refine r_bipush (pc := 1) (48 : Int32) dX7_takeNumber_1 (by decide) ?_
  replace hf := obind hf
  obtain ⟨q1, e2, hf⟩ := hf
  refine q_callV (pc := 3) (v := some (.int q1.1)) (S' := q1.2) mX7_take 7 [.int (48 : Int32)] dX7_takeNumber_3 kX7_36 fX7_take iX7_take ⟨by decide, by decide⟩ rfl rfl rfl (Nat.le_of_ble_eq_true rfl) (og e2) (mc1 := 0) (ms1 := 0) (mc2 := 0) (ms2 := 0) (by decide) (by decide) (C_X7_take S a0 (48 : Int32) q1 e2 (qR_mk _ _)) ?_
  change gW _ _ _ _ (.int q1.1 :: _) _ _ _ _ _
  refine r_if_eq (pc := 6) 11 dX7_takeNumber_6 (by decide) (fun hc => ?_) (fun hc => ?_)
  · rw [if_pos hc] at hf
    refine r_iconst (pc := 11) (0 : Int32) dX7_takeNumber_11 (by decide) ?_
    refine r_istore_n (pc := 12) dX7_takeNumber_12 (by decide) ?_
    change gW _ _ _ [some (.ref a0), some (.int a1), some (.int (0 : Int32)), none] _ _ _ _ _ _
    refine r_iconst (pc := 13) (0 : Int32) dX7_takeNumber_13 (by decide) ?_
    refine r_istore_n (pc := 14) dX7_takeNumber_14 (by decide) ?_
    change gW _ _ _ [some (.ref a0), some (.int a1), some (.int (0 : Int32)), some (.int (0 : Int32))] _ _ _ _ _ _
    replace hf := obind hf
    obtain ⟨r13, e14, hf⟩ := hf
    refine gW.weak (ls' := [some (.ref a0), some (.int a1), some (.int (0 : Int32)), some (.int (0 : Int32))]) (by simp [gle]) ?_
    refine g_iter (L := L_X7_takeNumber_15 a0 a1) (s := s_X7_takeNumber_15 a0 a1) (K := K_X7_takeNumber_15 X Q _ _ a0 a1) (W_X7_takeNumber_15 a0 a1) fu ((0 : Int32), (0 : Int32), q1.2) _ e14 ?_
    show gW _ _ 67 [some (.ref a0), some (.int a1), some (.int r13.1), some (.int r13.2.1)] [] r13.2.2.1 r13.2.2.2 _ _ _
    refine gW.mono (mc := 0) (ms := 0) ?_ (fun _ _ _ q => q) (by decide) (by decide)
    exact gW.weak (by simp [gle]) (W_X7_takeNumber_67 r13.2.2 r13.1 r13.2.1 r hf hk)
  · rw [if_neg hc] at hf
    refine r_iconst (pc := 9) (0 : Int32) dX7_takeNumber_9 (by decide) ?_
    refine r_ireturn (pc := 10) .int dX7_takeNumber_10 rfl rfl ?_
    cases hf
    exact hk
def F_X7_takeValue (S : pS) (a0 : Nat) : Option (Int32 × pS) := (oF S a0 7).bind fun _ => (F_X7_take S a0 (45 : Int32)).bind fun q1 => (F_X7_takeNumber q1.2 a0 (3 : Int32)).bind fun q3 => if q1.1 = 0 then (some (q3.1, q3.2)) else (if q3.1 = (-1000000 : Int32) then (some (q3.1, q3.2)) else (some (-q3.1, q3.2)))
set_option maxRecDepth 100000 in
set_option maxHeartbeats 4000000 in
theorem C_X7_takeValue {X : pX} {Q : pO → Nat → pF → Prop} (S : pS) (a0 : Nat) (r : Int32 × pS) (hf : F_X7_takeValue S a0 = some r) (hk : Q (.inl (some (.int r.1))) r.2.1 r.2.2) : gC X mX7_takeValue [.ref a0] S.1 S.2 Q 0 0 := by
  refine gC_of (by decide) (Nat.le_of_ble_eq_true rfl) rfl ?_
  change gW _ _ _ [some (.ref a0), none, none] _ _ _ _ _ _
  unfold F_X7_takeValue at hf
  obtain ⟨_, _, hf⟩ := obind hf
  refine r_aload_n (pc := 0) dX7_takeValue_0 rfl ?_
  refine r_bipush (pc := 1) (45 : Int32) dX7_takeValue_1 (by decide) ?_
  replace hf := obind hf
  obtain ⟨q1, e2, hf⟩ := hf
  refine q_callV (pc := 3) (v := some (.int q1.1)) (S' := q1.2) mX7_take 7 [.int (45 : Int32)] dX7_takeValue_3 kX7_36 fX7_take iX7_take ⟨by decide, by decide⟩ rfl rfl rfl (Nat.le_of_ble_eq_true rfl) (og e2) (mc1 := 0) (ms1 := 0) (mc2 := 0) (ms2 := 0) (by decide) (by decide) (C_X7_take S a0 (45 : Int32) q1 e2 (qR_mk _ _)) ?_
  change gW _ _ _ _ (.int q1.1 :: _) _ _ _ _ _
  refine r_istore_n (pc := 6) dX7_takeValue_6 (by decide) ?_
  change gW _ _ _ [some (.ref a0), some (.int q1.1), none] _ _ _ _ _ _
  refine r_aload_n (pc := 7) dX7_takeValue_7 rfl ?_
  refine r_iconst (pc := 8) (3 : Int32) dX7_takeValue_8 (by decide) ?_
  replace hf := obind hf
  obtain ⟨q3, e4, hf⟩ := hf
  refine q_callV (pc := 9) (v := some (.int q3.1)) (S' := q3.2) mX7_takeNumber 7 [.int (3 : Int32)] dX7_takeValue_9 kX7_41 fX7_takeNumber iX7_takeNumber ⟨by decide, by decide⟩ rfl rfl rfl (Nat.le_of_ble_eq_true rfl) (og e4) (mc1 := 0) (ms1 := 0) (mc2 := 0) (ms2 := 0) (by decide) (by decide) (C_X7_takeNumber q1.2 a0 (3 : Int32) q3 e4 (qR_mk _ _)) ?_
  change gW _ _ _ _ (.int q3.1 :: _) _ _ _ _ _
  refine r_istore_n (pc := 12) dX7_takeValue_12 (by decide) ?_
  change gW _ _ _ [some (.ref a0), some (.int q1.1), some (.int q3.1)] _ _ _ _ _ _
  refine r_iload_n (pc := 13) dX7_takeValue_13 rfl ?_
  refine r_if_eq (pc := 14) 28 dX7_takeValue_14 (by decide) (fun hc => ?_) (fun hc => ?_)
  · rw [if_pos hc] at hf
    refine r_iload_n (pc := 28) dX7_takeValue_28 rfl ?_
    refine r_ireturn (pc := 29) .int dX7_takeValue_29 rfl rfl ?_
    cases hf
    exact hk
  · rw [if_neg hc] at hf
    refine r_iload_n (pc := 17) dX7_takeValue_17 rfl ?_
    refine r_ldc (pc := 18) dX7_takeValue_18 kX7_40 ?_
    refine r_icmp_eq (pc := 20) 28 dX7_takeValue_20 (by decide) (fun hc => ?_) (fun hc => ?_)
    · rw [if_pos hc] at hf
      refine r_iload_n (pc := 28) dX7_takeValue_28 rfl ?_
      refine r_ireturn (pc := 29) .int dX7_takeValue_29 rfl rfl ?_
      cases hf
      exact hk
    · rw [if_neg hc] at hf
      refine r_iload_n (pc := 23) dX7_takeValue_23 rfl ?_
      refine r_ineg (pc := 24) dX7_takeValue_24 ?_
      refine r_goto (pc := 25) 29 dX7_takeValue_25 (by decide) ?_
      refine r_ireturn (pc := 29) .int dX7_takeValue_29 rfl rfl ?_
      cases hf
      exact hk
def F_X1_readBound (S : pS) (a0 : Nat) (a1 : Nat) (a2 : Int32) (a3 : Int32) : Option (Int32 × pS) := (oF S a0 1).bind fun _ => (oGA S a0 1 0).bind fun x1 => (oSI S x1 .int a2 a3).bind fun S3 => (oGA S3 a0 1 2).bind fun x5 => (F_X7_takeValue S3 a1).bind fun q7 => (oSI q7.2 x5 .int a2 q7.1).bind fun S9 => (oGA S9 a0 1 2).bind fun x11 => (oAI S9 x11 .int a2).bind fun x13 => if x13 = (-1000000 : Int32) then (some ((0 : Int32), S9)) else (some ((1 : Int32), S9))
set_option maxRecDepth 100000 in
set_option maxHeartbeats 4000000 in
theorem C_X1_readBound {X : pX} {Q : pO → Nat → pF → Prop} (S : pS) (a0 : Nat) (a1 : Nat) (a2 : Int32) (a3 : Int32) (r : Int32 × pS) (hf : F_X1_readBound S a0 a1 a2 a3 = some r) (hk : Q (.inl (some (.int r.1))) r.2.1 r.2.2) : gC X mX1_readBound [.ref a0, .ref a1, .int a2, .int a3] S.1 S.2 Q 0 0 := by
  refine gC_of (by decide) (Nat.le_of_ble_eq_true rfl) rfl ?_
  change gW _ _ _ [some (.ref a0), some (.ref a1), some (.int a2), some (.int a3)] _ _ _ _ _ _
  unfold F_X1_readBound at hf
  obtain ⟨_, _, hf⟩ := obind hf
  refine r_aload_n (pc := 0) dX1_readBound_0 rfl ?_
  replace hf := obind hf
  obtain ⟨x1, e2, hf⟩ := hf
  refine q_getA (pc := 1) dX1_readBound_1 gX1_9 e2 ?_
  refine r_iload_n (pc := 4) dX1_readBound_4 rfl ?_
  refine r_iload_n (pc := 5) dX1_readBound_5 rfl ?_
  replace hf := obind hf
  obtain ⟨S3, e4, hf⟩ := hf
  refine q_iast (pc := 6) dX1_readBound_6 e4 ?_
  refine r_aload_n (pc := 7) dX1_readBound_7 rfl ?_
  replace hf := obind hf
  obtain ⟨x5, e6, hf⟩ := hf
  refine q_getA (pc := 8) dX1_readBound_8 gX1_19 e6 ?_
  refine r_iload_n (pc := 11) dX1_readBound_11 rfl ?_
  refine r_aload_n (pc := 12) dX1_readBound_12 rfl ?_
  replace hf := obind hf
  obtain ⟨q7, e8, hf⟩ := hf
  refine q_callV (pc := 13) (v := some (.int q7.1)) (S' := q7.2) mX7_takeValue 7 [] dX1_readBound_13 kX1_76 fX7_takeValue iX7_takeValue ⟨by decide, by decide⟩ rfl rfl rfl (Nat.le_of_ble_eq_true rfl) (og e8) (mc1 := 0) (ms1 := 0) (mc2 := 0) (ms2 := 0) (by decide) (by decide) (C_X7_takeValue S3 a1 q7 e8 (qR_mk _ _)) ?_
  change gW _ _ _ _ (.int q7.1 :: _) _ _ _ _ _
  replace hf := obind hf
  obtain ⟨S9, e10, hf⟩ := hf
  refine q_iast (pc := 16) dX1_readBound_16 e10 ?_
  refine r_aload_n (pc := 17) dX1_readBound_17 rfl ?_
  replace hf := obind hf
  obtain ⟨x11, e12, hf⟩ := hf
  refine q_getA (pc := 18) dX1_readBound_18 gX1_19 e12 ?_
  refine r_iload_n (pc := 21) dX1_readBound_21 rfl ?_
  replace hf := obind hf
  obtain ⟨x13, e14, hf⟩ := hf
  refine q_iald (pc := 22) dX1_readBound_22 e14 ?_
  refine r_ldc (pc := 23) dX1_readBound_23 kX1_80 ?_
  refine r_icmp_eq (pc := 25) 32 dX1_readBound_25 (by decide) (fun hc => ?_) (fun hc => ?_)
  · rw [if_pos hc] at hf
    refine r_iconst (pc := 32) (0 : Int32) dX1_readBound_32 (by decide) ?_
    refine r_ireturn (pc := 33) .boolean dX1_readBound_33 rfl rfl ?_
    cases hf
    exact hk
  · rw [if_neg hc] at hf
    refine r_iconst (pc := 28) (1 : Int32) dX1_readBound_28 (by decide) ?_
    refine r_goto (pc := 29) 33 dX1_readBound_29 (by decide) ?_
    refine r_ireturn (pc := 33) .boolean dX1_readBound_33 rfl rfl ?_
    cases hf
    exact hk
abbrev L_X7_takeLetters_2 (l0 : Nat) (l1 : Nat) (l2 : Int32) : Int32 × pS → List (Option Value) := fun a => [some (.ref l0), some (.ref l1), some (.int l2), some (.int a.1)]
abbrev s_X7_takeLetters_2 (l0 : Nat) (l1 : Nat) (l2 : Int32) : Int32 × pS → pS := fun a => a.2
abbrev K_X7_takeLetters_2 (X : pX) (Q : pO → Nat → pF → Prop) (mc ms : Nat) (l0 : Nat) (l1 : Nat) (l2 : Int32) : Int32 × pS → Prop := (fun b => gW X mX7_takeLetters 51 [some (.ref l0), some (.ref l1), some (.int l2), some (.int b.1)] [] b.2.1 b.2.2 Q mc ms)
def F_X7_takeLetters_2 (l0 : Nat) (l1 : Nat) (l2 : Int32) : Int32 × pS → Option ((Int32 × pS) ⊕ (Int32 × pS)) := fun a => if (10 : Int32) ≤ a.1 then (some (.inr (a.1, a.2))) else ((F_X7_next a.2 l0).bind fun q1 => if q1 < (97 : Int32) then (some (.inr (a.1, a.2))) else ((F_X7_next a.2 l0).bind fun q3 => if (122 : Int32) < q3 then (some (.inr (a.1, a.2))) else ((F_X7_next a.2 l0).bind fun q5 => (oSI a.2 l1 .char (l2 + a.1) q5).bind fun S7 => (oGI S7 l0 7 2).bind fun x9 => (oPI S7 l0 7 2 (x9 + (1 : Int32))).bind fun S11 => some (.inl (a.1 + (1 : Int32), S11)))))
set_option maxRecDepth 100000 in
set_option maxHeartbeats 4000000 in
theorem W_X7_takeLetters_2 {X : pX} {Q : pO → Nat → pF → Prop} {mc ms : Nat} (l0 : Nat) (l1 : Nat) (l2 : Int32) : ∀ (a : Int32 × pS) (r : (Int32 × pS) ⊕ (Int32 × pS)), F_X7_takeLetters_2 l0 l1 l2 a = some r → Sum.elim (fun a' => gW X mX7_takeLetters 2 (L_X7_takeLetters_2 l0 l1 l2 a') [] (s_X7_takeLetters_2 l0 l1 l2 a').1 (s_X7_takeLetters_2 l0 l1 l2 a').2 Q mc ms) (K_X7_takeLetters_2 X Q mc ms l0 l1 l2) r → gW X mX7_takeLetters 2 (L_X7_takeLetters_2 l0 l1 l2 a) [] (s_X7_takeLetters_2 l0 l1 l2 a).1 (s_X7_takeLetters_2 l0 l1 l2 a).2 Q mc ms := by
  intro a r hf hk
  obtain ⟨l3, S⟩ := a
  unfold F_X7_takeLetters_2 at hf
  try dsimp only at hf
  change gW _ _ _ [some (.ref l0), some (.ref l1), some (.int l2), some (.int l3)] _ S.1 S.2 _ _ _
  refine r_iload_n (pc := 2) dX7_takeLetters_2 rfl ?_
  refine r_bipush (pc := 3) (10 : Int32) dX7_takeLetters_3 (by decide) ?_
  refine r_icmp_ge (pc := 5) 51 dX7_takeLetters_5 (by decide) (fun hc => ?_) (fun hc => ?_)
  · rw [if_pos hc] at hf
    cases hf
    exact gW.weak (by simp [gle]) hk
  · rw [if_neg hc] at hf
    refine r_aload_n (pc := 8) dX7_takeLetters_8 rfl ?_
    replace hf := obind hf
    obtain ⟨q1, e2, hf⟩ := hf
    refine q_callV (pc := 9) (v := some (.int q1)) (S' := S) mX7_next 7 [] dX7_takeLetters_9 kX7_22 fX7_next iX7_next ⟨by decide, by decide⟩ rfl rfl rfl (Nat.le_of_ble_eq_true rfl) (og e2) (mc1 := 0) (ms1 := 0) (mc2 := mc) (ms2 := ms) (by omega) (by omega) (C_X7_next S l0 q1 e2 (qR_mk _ _)) ?_
    change gW _ _ _ _ (.int q1 :: _) _ _ _ _ _
    refine r_bipush (pc := 12) (97 : Int32) dX7_takeLetters_12 (by decide) ?_
    refine r_icmp_lt (pc := 14) 51 dX7_takeLetters_14 (by decide) (fun hc => ?_) (fun hc => ?_)
    · rw [if_pos hc] at hf
      cases hf
      exact gW.weak (by simp [gle]) hk
    · rw [if_neg hc] at hf
      refine r_aload_n (pc := 17) dX7_takeLetters_17 rfl ?_
      replace hf := obind hf
      obtain ⟨q3, e4, hf⟩ := hf
      refine q_callV (pc := 18) (v := some (.int q3)) (S' := S) mX7_next 7 [] dX7_takeLetters_18 kX7_22 fX7_next iX7_next ⟨by decide, by decide⟩ rfl rfl rfl (Nat.le_of_ble_eq_true rfl) (og e4) (mc1 := 0) (ms1 := 0) (mc2 := mc) (ms2 := ms) (by omega) (by omega) (C_X7_next S l0 q3 e4 (qR_mk _ _)) ?_
      change gW _ _ _ _ (.int q3 :: _) _ _ _ _ _
      refine r_bipush (pc := 21) (122 : Int32) dX7_takeLetters_21 (by decide) ?_
      refine r_icmp_gt (pc := 23) 51 dX7_takeLetters_23 (by decide) (fun hc => ?_) (fun hc => ?_)
      · rw [if_pos hc] at hf
        cases hf
        exact gW.weak (by simp [gle]) hk
      · rw [if_neg hc] at hf
        refine r_aload_n (pc := 26) dX7_takeLetters_26 rfl ?_
        refine r_iload_n (pc := 27) dX7_takeLetters_27 rfl ?_
        refine r_iload_n (pc := 28) dX7_takeLetters_28 rfl ?_
        refine r_iadd (pc := 29) dX7_takeLetters_29 ?_
        refine r_aload_n (pc := 30) dX7_takeLetters_30 rfl ?_
        replace hf := obind hf
        obtain ⟨q5, e6, hf⟩ := hf
        refine q_callV (pc := 31) (v := some (.int q5)) (S' := S) mX7_next 7 [] dX7_takeLetters_31 kX7_22 fX7_next iX7_next ⟨by decide, by decide⟩ rfl rfl rfl (Nat.le_of_ble_eq_true rfl) (og e6) (mc1 := 0) (ms1 := 0) (mc2 := mc) (ms2 := ms) (by omega) (by omega) (C_X7_next S l0 q5 e6 (qR_mk _ _)) ?_
        change gW _ _ _ _ (.int q5 :: _) _ _ _ _ _
        replace hf := obind hf
        obtain ⟨S7, e8, hf⟩ := hf
        refine q_cast (pc := 34) dX7_takeLetters_34 e8 ?_
        refine r_iinc (pc := 35) dX7_takeLetters_35 rfl (by decide) ?_
        change gW _ _ _ [some (.ref l0), some (.ref l1), some (.int l2), some (.int (l3 + (1 : Int32)))] _ _ _ _ _ _
        refine r_aload_n (pc := 38) dX7_takeLetters_38 rfl ?_
        refine r_dup (pc := 39) dX7_takeLetters_39 rfl ?_
        replace hf := obind hf
        obtain ⟨x9, e10, hf⟩ := hf
        refine q_getI (pc := 40) dX7_takeLetters_40 gX7_19 e10 ?_
        refine r_iconst (pc := 43) (1 : Int32) dX7_takeLetters_43 (by decide) ?_
        refine r_iadd (pc := 44) dX7_takeLetters_44 ?_
        replace hf := obind hf
        obtain ⟨S11, e12, hf⟩ := hf
        refine q_putI (pc := 45) dX7_takeLetters_45 pX7_19 rfl e12 ?_
        refine r_goto (pc := 48) 2 dX7_takeLetters_48 (by decide) ?_
        cases hf
        exact gW.weak (by simp [gle]) hk
def F_X7_takeLetters (S : pS) (a0 : Nat) (a1 : Nat) (a2 : Int32) : Option (Int32 × pS) := (oF S a0 7).bind fun _ => (iter (F_X7_takeLetters_2 a0 a1 a2) fu ((0 : Int32), S)).bind fun r13 => some (r13.1, r13.2)
set_option maxRecDepth 100000 in
set_option maxHeartbeats 4000000 in
theorem C_X7_takeLetters {X : pX} {Q : pO → Nat → pF → Prop} (S : pS) (a0 : Nat) (a1 : Nat) (a2 : Int32) (r : Int32 × pS) (hf : F_X7_takeLetters S a0 a1 a2 = some r) (hk : Q (.inl (some (.int r.1))) r.2.1 r.2.2) : gC X mX7_takeLetters [.ref a0, .ref a1, .int a2] S.1 S.2 Q 0 0 := by
  refine gC_of (by decide) (Nat.le_of_ble_eq_true rfl) rfl ?_
  change gW _ _ _ [some (.ref a0), some (.ref a1), some (.int a2), none] _ _ _ _ _ _
  unfold F_X7_takeLetters at hf
  obtain ⟨_, _, hf⟩ := obind hf
  refine r_iconst (pc := 0) (0 : Int32) dX7_takeLetters_0 (by decide) ?_
  refine r_istore_n (pc := 1) dX7_takeLetters_1 (by decide) ?_
  change gW _ _ _ [some (.ref a0), some (.ref a1), some (.int a2), some (.int (0 : Int32))] _ _ _ _ _ _
  replace hf := obind hf
  obtain ⟨r13, e14, hf⟩ := hf
  refine gW.weak (ls' := [some (.ref a0), some (.ref a1), some (.int a2), some (.int (0 : Int32))]) (by simp [gle]) ?_
  refine g_iter (L := L_X7_takeLetters_2 a0 a1 a2) (s := s_X7_takeLetters_2 a0 a1 a2) (K := K_X7_takeLetters_2 X Q _ _ a0 a1 a2) (W_X7_takeLetters_2 a0 a1 a2) fu ((0 : Int32), S) _ e14 ?_
  show gW _ _ 51 [some (.ref a0), some (.ref a1), some (.int a2), some (.int r13.1)] [] r13.2.1 r13.2.2 _ _ _
  refine r_iload_n (pc := 51) dX7_takeLetters_51 rfl ?_
  refine r_ireturn (pc := 52) .int dX7_takeLetters_52 rfl rfl ?_
  cases hf
  exact hk
def F_X1_readLetters (S : pS) (a0 : Nat) (a1 : Nat) (a2 : Int32) : Option (Int32 × pS) := (oF S a0 1).bind fun _ => (oGA S a0 1 0).bind fun x1 => (oSI S x1 .int a2 (6 : Int32)).bind fun S3 => (oGA S3 a0 1 4).bind fun x5 => (oGA S3 a0 1 3).bind fun x7 => (F_X7_takeLetters S3 a1 x7 (a2 * (10 : Int32))).bind fun q9 => (oSI q9.2 x5 .int a2 q9.1).bind fun S11 => (oGA S11 a0 1 4).bind fun x13 => (oAI S11 x13 .int a2).bind fun x15 => if x15 ≤ 0 then (some ((0 : Int32), S11)) else (some ((1 : Int32), S11))
set_option maxRecDepth 100000 in
set_option maxHeartbeats 4000000 in
theorem C_X1_readLetters {X : pX} {Q : pO → Nat → pF → Prop} (S : pS) (a0 : Nat) (a1 : Nat) (a2 : Int32) (r : Int32 × pS) (hf : F_X1_readLetters S a0 a1 a2 = some r) (hk : Q (.inl (some (.int r.1))) r.2.1 r.2.2) : gC X mX1_readLetters [.ref a0, .ref a1, .int a2] S.1 S.2 Q 0 0 := by
  refine gC_of (by decide) (Nat.le_of_ble_eq_true rfl) rfl ?_
  change gW _ _ _ [some (.ref a0), some (.ref a1), some (.int a2)] _ _ _ _ _ _
  unfold F_X1_readLetters at hf
  obtain ⟨_, _, hf⟩ := obind hf
  refine r_aload_n (pc := 0) dX1_readLetters_0 rfl ?_
  replace hf := obind hf
  obtain ⟨x1, e2, hf⟩ := hf
  refine q_getA (pc := 1) dX1_readLetters_1 gX1_9 e2 ?_
  refine r_iload_n (pc := 4) dX1_readLetters_4 rfl ?_
  refine r_bipush (pc := 5) (6 : Int32) dX1_readLetters_5 (by decide) ?_
  replace hf := obind hf
  obtain ⟨S3, e4, hf⟩ := hf
  refine q_iast (pc := 7) dX1_readLetters_7 e4 ?_
  refine r_aload_n (pc := 8) dX1_readLetters_8 rfl ?_
  replace hf := obind hf
  obtain ⟨x5, e6, hf⟩ := hf
  refine q_getA (pc := 9) dX1_readLetters_9 gX1_26 e6 ?_
  refine r_iload_n (pc := 12) dX1_readLetters_12 rfl ?_
  refine r_aload_n (pc := 13) dX1_readLetters_13 rfl ?_
  refine r_aload_n (pc := 14) dX1_readLetters_14 rfl ?_
  replace hf := obind hf
  obtain ⟨x7, e8, hf⟩ := hf
  refine q_getA (pc := 15) dX1_readLetters_15 gX1_22 e8 ?_
  refine r_iload_n (pc := 18) dX1_readLetters_18 rfl ?_
  refine r_bipush (pc := 19) (10 : Int32) dX1_readLetters_19 (by decide) ?_
  refine r_imul (pc := 21) dX1_readLetters_21 ?_
  replace hf := obind hf
  obtain ⟨q9, e10, hf⟩ := hf
  refine q_callV (pc := 22) (v := some (.int q9.1)) (S' := q9.2) mX7_takeLetters 7 [.ref x7, .int (a2 * (10 : Int32))] dX1_readLetters_22 kX1_81 fX7_takeLetters iX7_takeLetters ⟨by decide, by decide⟩ rfl rfl rfl (Nat.le_of_ble_eq_true rfl) (og e10) (mc1 := 0) (ms1 := 0) (mc2 := 0) (ms2 := 0) (by decide) (by decide) (C_X7_takeLetters S3 a1 x7 (a2 * (10 : Int32)) q9 e10 (qR_mk _ _)) ?_
  change gW _ _ _ _ (.int q9.1 :: _) _ _ _ _ _
  replace hf := obind hf
  obtain ⟨S11, e12, hf⟩ := hf
  refine q_iast (pc := 25) dX1_readLetters_25 e12 ?_
  refine r_aload_n (pc := 26) dX1_readLetters_26 rfl ?_
  replace hf := obind hf
  obtain ⟨x13, e14, hf⟩ := hf
  refine q_getA (pc := 27) dX1_readLetters_27 gX1_26 e14 ?_
  refine r_iload_n (pc := 30) dX1_readLetters_30 rfl ?_
  replace hf := obind hf
  obtain ⟨x15, e16, hf⟩ := hf
  refine q_iald (pc := 31) dX1_readLetters_31 e16 ?_
  refine r_if_le (pc := 32) 39 dX1_readLetters_32 (by decide) (fun hc => ?_) (fun hc => ?_)
  · rw [if_pos hc] at hf
    refine r_iconst (pc := 39) (0 : Int32) dX1_readLetters_39 (by decide) ?_
    refine r_ireturn (pc := 40) .boolean dX1_readLetters_40 rfl rfl ?_
    cases hf
    exact hk
  · rw [if_neg hc] at hf
    refine r_iconst (pc := 35) (1 : Int32) dX1_readLetters_35 (by decide) ?_
    refine r_goto (pc := 36) 40 dX1_readLetters_36 (by decide) ?_
    refine r_ireturn (pc := 40) .boolean dX1_readLetters_40 rfl rfl ?_
    cases hf
    exact hk
def F_X1_readCondition (S : pS) (a0 : Nat) (a1 : Nat) (a2 : Int32) : Option (Int32 × pS) := (oF S a0 1).bind fun _ => (oGA S a0 1 1).bind fun x1 => (F_X7_take S a1 (33 : Int32)).bind fun q3 => (oSI q3.2 x1 .boolean a2 q3.1).bind fun S5 => (F_X7_take S5 a1 (100 : Int32)).bind fun q7 => if q7.1 = 0 then ((F_X7_take q7.2 a1 (108 : Int32)).bind fun q9 => if q9.1 = 0 then ((F_X7_take q9.2 a1 (109 : Int32)).bind fun q11 => if q11.1 = 0 then ((F_X7_take q11.2 a1 (62 : Int32)).bind fun q13 => if q13.1 = 0 then ((F_X7_take q13.2 a1 (60 : Int32)).bind fun q15 => if q15.1 = 0 then ((F_X7_take q15.2 a1 (126 : Int32)).bind fun q17 => if q17.1 = 0 then (some ((0 : Int32), q17.2)) else ((F_X1_readLetters q17.2 a0 a1 a2).bind fun q19 => if q19.1 = 0 then (some ((0 : Int32), q19.2)) else (some ((1 : Int32), q19.2)))) else ((F_X1_readBound q15.2 a0 a1 a2 (5 : Int32)).bind fun q21 => (oZ q21.1).bind fun x23 => some (x23, q21.2))) else ((F_X1_readBound q13.2 a0 a1 a2 (4 : Int32)).bind fun q25 => (oZ q25.1).bind fun x27 => some (x27, q25.2))) else ((oGA q11.2 a0 1 0).bind fun x29 => (oSI q11.2 x29 .int a2 (3 : Int32)).bind fun S31 => (F_X7_takeWord S31 a1 4).bind fun q33 => (oZ q33.1).bind fun x35 => some (x35, q33.2))) else ((oGA q9.2 a0 1 0).bind fun x37 => (oSI q9.2 x37 .int a2 (2 : Int32)).bind fun S39 => (F_X7_takeWord S39 a1 3).bind fun q41 => (oZ q41.1).bind fun x43 => some (x43, q41.2))) else ((F_X1_readDoneOrDated q7.2 a0 a1 a2).bind fun q45 => (oZ q45.1).bind fun x47 => some (x47, q45.2))
set_option maxRecDepth 100000 in
set_option maxHeartbeats 4000000 in
theorem C_X1_readCondition {X : pX} {Q : pO → Nat → pF → Prop} (S : pS) (a0 : Nat) (a1 : Nat) (a2 : Int32) (r : Int32 × pS) (hf : F_X1_readCondition S a0 a1 a2 = some r) (hk : Q (.inl (some (.int r.1))) r.2.1 r.2.2) : gC X mX1_readCondition [.ref a0, .ref a1, .int a2] S.1 S.2 Q 0 0 := by
  refine gC_of (by decide) (Nat.le_of_ble_eq_true rfl) rfl ?_
  change gW _ _ _ [some (.ref a0), some (.ref a1), some (.int a2)] _ _ _ _ _ _
  unfold F_X1_readCondition at hf
  obtain ⟨_, _, hf⟩ := obind hf
  refine r_aload_n (pc := 0) dX1_readCondition_0 rfl ?_
  replace hf := obind hf
  obtain ⟨x1, e2, hf⟩ := hf
  refine q_getA (pc := 1) dX1_readCondition_1 gX1_15 e2 ?_
  refine r_iload_n (pc := 4) dX1_readCondition_4 rfl ?_
  refine r_aload_n (pc := 5) dX1_readCondition_5 rfl ?_
  refine r_bipush (pc := 6) (33 : Int32) dX1_readCondition_6 (by decide) ?_
  replace hf := obind hf
  obtain ⟨q3, e4, hf⟩ := hf
  refine q_callV (pc := 8) (v := some (.int q3.1)) (S' := q3.2) mX7_take 7 [.int (33 : Int32)] dX1_readCondition_8 kX1_42 fX7_take iX7_take ⟨by decide, by decide⟩ rfl rfl rfl (Nat.le_of_ble_eq_true rfl) (og e4) (mc1 := 0) (ms1 := 0) (mc2 := 0) (ms2 := 0) (by decide) (by decide) (C_X7_take S a1 (33 : Int32) q3 e4 (qR_mk _ _)) ?_
  change gW _ _ _ _ (.int q3.1 :: _) _ _ _ _ _
  replace hf := obind hf
  obtain ⟨S5, e6, hf⟩ := hf
  refine q_zast (pc := 11) dX1_readCondition_11 e6 ?_
  refine r_aload_n (pc := 12) dX1_readCondition_12 rfl ?_
  refine r_bipush (pc := 13) (100 : Int32) dX1_readCondition_13 (by decide) ?_
  replace hf := obind hf
  obtain ⟨q7, e8, hf⟩ := hf
  refine q_callV (pc := 15) (v := some (.int q7.1)) (S' := q7.2) mX7_take 7 [.int (100 : Int32)] dX1_readCondition_15 kX1_42 fX7_take iX7_take ⟨by decide, by decide⟩ rfl rfl rfl (Nat.le_of_ble_eq_true rfl) (og e8) (mc1 := 0) (ms1 := 0) (mc2 := 0) (ms2 := 0) (by decide) (by decide) (C_X7_take S5 a1 (100 : Int32) q7 e8 (qR_mk _ _)) ?_
  change gW _ _ _ _ (.int q7.1 :: _) _ _ _ _ _
  refine r_if_eq (pc := 18) 28 dX1_readCondition_18 (by decide) (fun hc => ?_) (fun hc => ?_)
  · rw [if_pos hc] at hf
    refine r_aload_n (pc := 28) dX1_readCondition_28 rfl ?_
    refine r_bipush (pc := 29) (108 : Int32) dX1_readCondition_29 (by decide) ?_
    replace hf := obind hf
    obtain ⟨q9, e10, hf⟩ := hf
    refine q_callV (pc := 31) (v := some (.int q9.1)) (S' := q9.2) mX7_take 7 [.int (108 : Int32)] dX1_readCondition_31 kX1_42 fX7_take iX7_take ⟨by decide, by decide⟩ rfl rfl rfl (Nat.le_of_ble_eq_true rfl) (og e10) (mc1 := 0) (ms1 := 0) (mc2 := 0) (ms2 := 0) (by decide) (by decide) (C_X7_take q7.2 a1 (108 : Int32) q9 e10 (qR_mk _ _)) ?_
    change gW _ _ _ _ (.int q9.1 :: _) _ _ _ _ _
    refine r_if_eq (pc := 34) 51 dX1_readCondition_34 (by decide) (fun hc => ?_) (fun hc => ?_)
    · rw [if_pos hc] at hf
      refine r_aload_n (pc := 51) dX1_readCondition_51 rfl ?_
      refine r_bipush (pc := 52) (109 : Int32) dX1_readCondition_52 (by decide) ?_
      replace hf := obind hf
      obtain ⟨q11, e12, hf⟩ := hf
      refine q_callV (pc := 54) (v := some (.int q11.1)) (S' := q11.2) mX7_take 7 [.int (109 : Int32)] dX1_readCondition_54 kX1_42 fX7_take iX7_take ⟨by decide, by decide⟩ rfl rfl rfl (Nat.le_of_ble_eq_true rfl) (og e12) (mc1 := 0) (ms1 := 0) (mc2 := 0) (ms2 := 0) (by decide) (by decide) (C_X7_take q9.2 a1 (109 : Int32) q11 e12 (qR_mk _ _)) ?_
      change gW _ _ _ _ (.int q11.1 :: _) _ _ _ _ _
      refine r_if_eq (pc := 57) 74 dX1_readCondition_57 (by decide) (fun hc => ?_) (fun hc => ?_)
      · rw [if_pos hc] at hf
        refine r_aload_n (pc := 74) dX1_readCondition_74 rfl ?_
        refine r_bipush (pc := 75) (62 : Int32) dX1_readCondition_75 (by decide) ?_
        replace hf := obind hf
        obtain ⟨q13, e14, hf⟩ := hf
        refine q_callV (pc := 77) (v := some (.int q13.1)) (S' := q13.2) mX7_take 7 [.int (62 : Int32)] dX1_readCondition_77 kX1_42 fX7_take iX7_take ⟨by decide, by decide⟩ rfl rfl rfl (Nat.le_of_ble_eq_true rfl) (og e14) (mc1 := 0) (ms1 := 0) (mc2 := 0) (ms2 := 0) (by decide) (by decide) (C_X7_take q11.2 a1 (62 : Int32) q13 e14 (qR_mk _ _)) ?_
        change gW _ _ _ _ (.int q13.1 :: _) _ _ _ _ _
        refine r_if_eq (pc := 80) 91 dX1_readCondition_80 (by decide) (fun hc => ?_) (fun hc => ?_)
        · rw [if_pos hc] at hf
          refine r_aload_n (pc := 91) dX1_readCondition_91 rfl ?_
          refine r_bipush (pc := 92) (60 : Int32) dX1_readCondition_92 (by decide) ?_
          replace hf := obind hf
          obtain ⟨q15, e16, hf⟩ := hf
          refine q_callV (pc := 94) (v := some (.int q15.1)) (S' := q15.2) mX7_take 7 [.int (60 : Int32)] dX1_readCondition_94 kX1_42 fX7_take iX7_take ⟨by decide, by decide⟩ rfl rfl rfl (Nat.le_of_ble_eq_true rfl) (og e16) (mc1 := 0) (ms1 := 0) (mc2 := 0) (ms2 := 0) (by decide) (by decide) (C_X7_take q13.2 a1 (60 : Int32) q15 e16 (qR_mk _ _)) ?_
          change gW _ _ _ _ (.int q15.1 :: _) _ _ _ _ _
          refine r_if_eq (pc := 97) 108 dX1_readCondition_97 (by decide) (fun hc => ?_) (fun hc => ?_)
          · rw [if_pos hc] at hf
            refine r_aload_n (pc := 108) dX1_readCondition_108 rfl ?_
            refine r_bipush (pc := 109) (126 : Int32) dX1_readCondition_109 (by decide) ?_
            replace hf := obind hf
            obtain ⟨q17, e18, hf⟩ := hf
            refine q_callV (pc := 111) (v := some (.int q17.1)) (S' := q17.2) mX7_take 7 [.int (126 : Int32)] dX1_readCondition_111 kX1_42 fX7_take iX7_take ⟨by decide, by decide⟩ rfl rfl rfl (Nat.le_of_ble_eq_true rfl) (og e18) (mc1 := 0) (ms1 := 0) (mc2 := 0) (ms2 := 0) (by decide) (by decide) (C_X7_take q15.2 a1 (126 : Int32) q17 e18 (qR_mk _ _)) ?_
            change gW _ _ _ _ (.int q17.1 :: _) _ _ _ _ _
            refine r_if_eq (pc := 114) 130 dX1_readCondition_114 (by decide) (fun hc => ?_) (fun hc => ?_)
            · rw [if_pos hc] at hf
              refine r_iconst (pc := 130) (0 : Int32) dX1_readCondition_130 (by decide) ?_
              refine r_ireturn (pc := 131) .boolean dX1_readCondition_131 rfl rfl ?_
              cases hf
              exact hk
            · rw [if_neg hc] at hf
              refine r_aload_n (pc := 117) dX1_readCondition_117 rfl ?_
              refine r_aload_n (pc := 118) dX1_readCondition_118 rfl ?_
              refine r_iload_n (pc := 119) dX1_readCondition_119 rfl ?_
              replace hf := obind hf
              obtain ⟨q19, e20, hf⟩ := hf
              refine q_callV (pc := 120) (v := some (.int q19.1)) (S' := q19.2) mX1_readLetters 1 [.ref a1, .int a2] dX1_readCondition_120 kX1_65 fX1_readLetters iX1_readLetters ⟨by decide, by decide⟩ rfl rfl rfl (Nat.le_of_ble_eq_true rfl) (og e20) (mc1 := 0) (ms1 := 0) (mc2 := 0) (ms2 := 0) (by decide) (by decide) (C_X1_readLetters q17.2 a0 a1 a2 q19 e20 (qR_mk _ _)) ?_
              change gW _ _ _ _ (.int q19.1 :: _) _ _ _ _ _
              refine r_if_eq (pc := 123) 130 dX1_readCondition_123 (by decide) (fun hc => ?_) (fun hc => ?_)
              · rw [if_pos hc] at hf
                refine r_iconst (pc := 130) (0 : Int32) dX1_readCondition_130 (by decide) ?_
                refine r_ireturn (pc := 131) .boolean dX1_readCondition_131 rfl rfl ?_
                cases hf
                exact hk
              · rw [if_neg hc] at hf
                refine r_iconst (pc := 126) (1 : Int32) dX1_readCondition_126 (by decide) ?_
                refine r_goto (pc := 127) 131 dX1_readCondition_127 (by decide) ?_
                refine r_ireturn (pc := 131) .boolean dX1_readCondition_131 rfl rfl ?_
                cases hf
                exact hk
          · rw [if_neg hc] at hf
            refine r_aload_n (pc := 100) dX1_readCondition_100 rfl ?_
            refine r_aload_n (pc := 101) dX1_readCondition_101 rfl ?_
            refine r_iload_n (pc := 102) dX1_readCondition_102 rfl ?_
            refine r_iconst (pc := 103) (5 : Int32) dX1_readCondition_103 (by decide) ?_
            replace hf := obind hf
            obtain ⟨q21, e22, hf⟩ := hf
            refine q_callV (pc := 104) (v := some (.int q21.1)) (S' := q21.2) mX1_readBound 1 [.ref a1, .int a2, .int (5 : Int32)] dX1_readCondition_104 kX1_61 fX1_readBound iX1_readBound ⟨by decide, by decide⟩ rfl rfl rfl (Nat.le_of_ble_eq_true rfl) (og e22) (mc1 := 0) (ms1 := 0) (mc2 := 0) (ms2 := 0) (by decide) (by decide) (C_X1_readBound q15.2 a0 a1 a2 (5 : Int32) q21 e22 (qR_mk _ _)) ?_
            change gW _ _ _ _ (.int q21.1 :: _) _ _ _ _ _
            replace hf := obind hf
            obtain ⟨x23, e24, hf⟩ := hf
            obtain ⟨e24a, e24b⟩ := oZ_some e24
            rw [e24a] at hf
            refine r_ireturn (pc := 107) .boolean dX1_readCondition_107 rfl e24b ?_
            cases hf
            exact hk
        · rw [if_neg hc] at hf
          refine r_aload_n (pc := 83) dX1_readCondition_83 rfl ?_
          refine r_aload_n (pc := 84) dX1_readCondition_84 rfl ?_
          refine r_iload_n (pc := 85) dX1_readCondition_85 rfl ?_
          refine r_iconst (pc := 86) (4 : Int32) dX1_readCondition_86 (by decide) ?_
          replace hf := obind hf
          obtain ⟨q25, e26, hf⟩ := hf
          refine q_callV (pc := 87) (v := some (.int q25.1)) (S' := q25.2) mX1_readBound 1 [.ref a1, .int a2, .int (4 : Int32)] dX1_readCondition_87 kX1_61 fX1_readBound iX1_readBound ⟨by decide, by decide⟩ rfl rfl rfl (Nat.le_of_ble_eq_true rfl) (og e26) (mc1 := 0) (ms1 := 0) (mc2 := 0) (ms2 := 0) (by decide) (by decide) (C_X1_readBound q13.2 a0 a1 a2 (4 : Int32) q25 e26 (qR_mk _ _)) ?_
          change gW _ _ _ _ (.int q25.1 :: _) _ _ _ _ _
          replace hf := obind hf
          obtain ⟨x27, e28, hf⟩ := hf
          obtain ⟨e28a, e28b⟩ := oZ_some e28
          rw [e28a] at hf
          refine r_ireturn (pc := 90) .boolean dX1_readCondition_90 rfl e28b ?_
          cases hf
          exact hk
      · rw [if_neg hc] at hf
        refine r_aload_n (pc := 60) dX1_readCondition_60 rfl ?_
        replace hf := obind hf
        obtain ⟨x29, e30, hf⟩ := hf
        refine q_getA (pc := 61) dX1_readCondition_61 gX1_9 e30 ?_
        refine r_iload_n (pc := 64) dX1_readCondition_64 rfl ?_
        refine r_iconst (pc := 65) (3 : Int32) dX1_readCondition_65 (by decide) ?_
        replace hf := obind hf
        obtain ⟨S31, e32, hf⟩ := hf
        refine q_iast (pc := 66) dX1_readCondition_66 e32 ?_
        refine r_aload_n (pc := 67) dX1_readCondition_67 rfl ?_
        refine r_ldcS (pc := 68) 3 dX1_readCondition_68 rfl ?_
        replace hf := obind hf
        obtain ⟨q33, e34, hf⟩ := hf
        refine q_callV (pc := 70) (v := some (.int q33.1)) (S' := q33.2) mX7_takeWord 7 [.retAddr 4] dX1_readCondition_70 kX1_55 fX7_takeWord iX7_takeWord ⟨by decide, by decide⟩ rfl rfl rfl (Nat.le_of_ble_eq_true rfl) (og e34) (mc1 := 0) (ms1 := 0) (mc2 := 0) (ms2 := 0) (by decide) (by decide) (C_X7_takeWord S31 a1 4 q33 e34 (qR_mk _ _)) ?_
        change gW _ _ _ _ (.int q33.1 :: _) _ _ _ _ _
        replace hf := obind hf
        obtain ⟨x35, e36, hf⟩ := hf
        obtain ⟨e36a, e36b⟩ := oZ_some e36
        rw [e36a] at hf
        refine r_ireturn (pc := 73) .boolean dX1_readCondition_73 rfl e36b ?_
        cases hf
        exact hk
    · rw [if_neg hc] at hf
      refine r_aload_n (pc := 37) dX1_readCondition_37 rfl ?_
      replace hf := obind hf
      obtain ⟨x37, e38, hf⟩ := hf
      refine q_getA (pc := 38) dX1_readCondition_38 gX1_9 e38 ?_
      refine r_iload_n (pc := 41) dX1_readCondition_41 rfl ?_
      refine r_iconst (pc := 42) (2 : Int32) dX1_readCondition_42 (by decide) ?_
      replace hf := obind hf
      obtain ⟨S39, e40, hf⟩ := hf
      refine q_iast (pc := 43) dX1_readCondition_43 e40 ?_
      refine r_aload_n (pc := 44) dX1_readCondition_44 rfl ?_
      refine r_ldcS (pc := 45) 2 dX1_readCondition_45 rfl ?_
      replace hf := obind hf
      obtain ⟨q41, e42, hf⟩ := hf
      refine q_callV (pc := 47) (v := some (.int q41.1)) (S' := q41.2) mX7_takeWord 7 [.retAddr 3] dX1_readCondition_47 kX1_55 fX7_takeWord iX7_takeWord ⟨by decide, by decide⟩ rfl rfl rfl (Nat.le_of_ble_eq_true rfl) (og e42) (mc1 := 0) (ms1 := 0) (mc2 := 0) (ms2 := 0) (by decide) (by decide) (C_X7_takeWord S39 a1 3 q41 e42 (qR_mk _ _)) ?_
      change gW _ _ _ _ (.int q41.1 :: _) _ _ _ _ _
      replace hf := obind hf
      obtain ⟨x43, e44, hf⟩ := hf
      obtain ⟨e44a, e44b⟩ := oZ_some e44
      rw [e44a] at hf
      refine r_ireturn (pc := 50) .boolean dX1_readCondition_50 rfl e44b ?_
      cases hf
      exact hk
  · rw [if_neg hc] at hf
    refine r_aload_n (pc := 21) dX1_readCondition_21 rfl ?_
    refine r_aload_n (pc := 22) dX1_readCondition_22 rfl ?_
    refine r_iload_n (pc := 23) dX1_readCondition_23 rfl ?_
    replace hf := obind hf
    obtain ⟨q45, e46, hf⟩ := hf
    refine q_callV (pc := 24) (v := some (.int q45.1)) (S' := q45.2) mX1_readDoneOrDated 1 [.ref a1, .int a2] dX1_readCondition_24 kX1_50 fX1_readDoneOrDated iX1_readDoneOrDated ⟨by decide, by decide⟩ rfl rfl rfl (Nat.le_of_ble_eq_true rfl) (og e46) (mc1 := 0) (ms1 := 0) (mc2 := 0) (ms2 := 0) (by decide) (by decide) (C_X1_readDoneOrDated q7.2 a0 a1 a2 q45 e46 (qR_mk _ _)) ?_
    change gW _ _ _ _ (.int q45.1 :: _) _ _ _ _ _
    replace hf := obind hf
    obtain ⟨x47, e48, hf⟩ := hf
    obtain ⟨e48a, e48b⟩ := oZ_some e48
    rw [e48a] at hf
    refine r_ireturn (pc := 27) .boolean dX1_readCondition_27 rfl e48b ?_
    cases hf
    exact hk
def F_X7_isAtEnd (S : pS) (a0 : Nat) : Option (Int32) := (oF S a0 7).bind fun _ => (oGI S a0 7 2).bind fun x1 => (oGI S a0 7 1).bind fun x3 => if x1 < x3 then (some (0 : Int32)) else (some (1 : Int32))
set_option maxRecDepth 100000 in
set_option maxHeartbeats 4000000 in
theorem C_X7_isAtEnd {X : pX} {Q : pO → Nat → pF → Prop} (S : pS) (a0 : Nat) (r : Int32) (hf : F_X7_isAtEnd S a0 = some r) (hk : Q (.inl (some (.int r))) S.1 S.2) : gC X mX7_isAtEnd [.ref a0] S.1 S.2 Q 0 0 := by
  refine gC_of (by decide) (Nat.le_of_ble_eq_true rfl) rfl ?_
  change gW _ _ _ [some (.ref a0)] _ _ _ _ _ _
  unfold F_X7_isAtEnd at hf
  obtain ⟨_, _, hf⟩ := obind hf
  refine r_aload_n (pc := 0) dX7_isAtEnd_0 rfl ?_
  replace hf := obind hf
  obtain ⟨x1, e2, hf⟩ := hf
  refine q_getI (pc := 1) dX7_isAtEnd_1 gX7_19 e2 ?_
  refine r_aload_n (pc := 4) dX7_isAtEnd_4 rfl ?_
  replace hf := obind hf
  obtain ⟨x3, e4, hf⟩ := hf
  refine q_getI (pc := 5) dX7_isAtEnd_5 gX7_15 e4 ?_
  refine r_icmp_lt (pc := 8) 15 dX7_isAtEnd_8 (by decide) (fun hc => ?_) (fun hc => ?_)
  · rw [if_pos hc] at hf
    refine r_iconst (pc := 15) (0 : Int32) dX7_isAtEnd_15 (by decide) ?_
    refine r_ireturn (pc := 16) .boolean dX7_isAtEnd_16 rfl rfl ?_
    cases hf
    exact hk
  · rw [if_neg hc] at hf
    refine r_iconst (pc := 11) (1 : Int32) dX7_isAtEnd_11 (by decide) ?_
    refine r_goto (pc := 12) 16 dX7_isAtEnd_12 (by decide) ?_
    refine r_ireturn (pc := 16) .boolean dX7_isAtEnd_16 rfl rfl ?_
    cases hf
    exact hk
abbrev L_X1_read_13 (l0 : Nat) (l1 : Nat) : Int32 × Int32 × pS → List (Option Value) := fun a => [some (.ref l0), some (.ref l1), some (.int a.1), some (.int a.2.1)]
abbrev s_X1_read_13 (l0 : Nat) (l1 : Nat) : Int32 × Int32 × pS → pS := fun a => a.2.2
abbrev K_X1_read_13 (X : pX) (Q : pO → Nat → pF → Prop) (mc ms : Nat) (l0 : Nat) (l1 : Nat) : (pS) ⊕ (pS) → Prop := (Sum.elim (fun b => gW X mX1_read 31 [some (.ref l0), some (.ref l1), none, none] [] b.1 b.2 Q mc ms) (fun b => gW X mX1_read 69 [some (.ref l0), some (.ref l1), none, none] [] b.1 b.2 Q mc ms))
def F_X1_read_13 (l0 : Nat) (l1 : Nat) : Int32 × Int32 × pS → Option ((Int32 × Int32 × pS) ⊕ ((pS) ⊕ (pS))) := fun a => if a.1 = 0 then (some (.inr (.inr a.2.2))) else (if (5 : Int32) ≤ a.2.1 then (some (.inr (.inr a.2.2))) else ((F_X1_readCondition a.2.2 l0 l1 a.2.1).bind fun q5 => if ¬ q5.1 = 0 then ((oPI q5.2 l0 1 5 (a.2.1 + (1 : Int32))).bind fun S7 => (oGI S7 l0 1 5).bind fun x9 => if (5 : Int32) ≤ x9 then (some (.inl ((0 : Int32), a.2.1 + (1 : Int32), S7))) else ((F_X7_take S7 l1 (38 : Int32)).bind fun q11 => if q11.1 = 0 then (some (.inl ((0 : Int32), a.2.1 + (1 : Int32), q11.2))) else (some (.inl ((1 : Int32), a.2.1 + (1 : Int32), q11.2))))) else (some (.inr (.inl q5.2)))))
set_option maxRecDepth 100000 in
set_option maxHeartbeats 4000000 in
theorem W_X1_read_13 {X : pX} {Q : pO → Nat → pF → Prop} {mc ms : Nat} (l0 : Nat) (l1 : Nat) : ∀ (a : Int32 × Int32 × pS) (r : (Int32 × Int32 × pS) ⊕ ((pS) ⊕ (pS))), F_X1_read_13 l0 l1 a = some r → Sum.elim (fun a' => gW X mX1_read 13 (L_X1_read_13 l0 l1 a') [] (s_X1_read_13 l0 l1 a').1 (s_X1_read_13 l0 l1 a').2 Q mc ms) (K_X1_read_13 X Q mc ms l0 l1) r → gW X mX1_read 13 (L_X1_read_13 l0 l1 a) [] (s_X1_read_13 l0 l1 a).1 (s_X1_read_13 l0 l1 a).2 Q mc ms := by
  intro a r hf hk
  obtain ⟨l2, l3, S⟩ := a
  unfold F_X1_read_13 at hf
  try dsimp only at hf
  change gW _ _ _ [some (.ref l0), some (.ref l1), some (.int l2), some (.int l3)] _ S.1 S.2 _ _ _
  refine r_iload_n (pc := 13) dX1_read_13 rfl ?_
  refine r_if_eq (pc := 14) 69 dX1_read_14 (by decide) (fun hc => ?_) (fun hc => ?_)
  · rw [if_pos hc] at hf
    cases hf
    exact gW.weak (by simp [gle]) hk
  · rw [if_neg hc] at hf
    refine r_iload_n (pc := 17) dX1_read_17 rfl ?_
    refine r_iconst (pc := 18) (5 : Int32) dX1_read_18 (by decide) ?_
    refine r_icmp_ge (pc := 19) 69 dX1_read_19 (by decide) (fun hc => ?_) (fun hc => ?_)
    · rw [if_pos hc] at hf
      cases hf
      exact gW.weak (by simp [gle]) hk
    · rw [if_neg hc] at hf
      refine r_aload_n (pc := 22) dX1_read_22 rfl ?_
      refine r_aload_n (pc := 23) dX1_read_23 rfl ?_
      refine r_iload_n (pc := 24) dX1_read_24 rfl ?_
      replace hf := obind hf
      obtain ⟨q5, e6, hf⟩ := hf
      refine q_callV (pc := 25) (v := some (.int q5.1)) (S' := q5.2) mX1_readCondition 1 [.ref l1, .int l3] dX1_read_25 kX1_38 fX1_readCondition iX1_readCondition ⟨by decide, by decide⟩ rfl rfl rfl (Nat.le_of_ble_eq_true rfl) (og e6) (mc1 := 0) (ms1 := 0) (mc2 := mc) (ms2 := ms) (by omega) (by omega) (C_X1_readCondition S l0 l1 l3 q5 e6 (qR_mk _ _)) ?_
      change gW _ _ _ _ (.int q5.1 :: _) _ _ _ _ _
      refine r_if_ne (pc := 28) 33 dX1_read_28 (by decide) (fun hc => ?_) (fun hc => ?_)
      · rw [if_pos hc] at hf
        refine r_aload_n (pc := 33) dX1_read_33 rfl ?_
        refine r_iload_n (pc := 34) dX1_read_34 rfl ?_
        refine r_iconst (pc := 35) (1 : Int32) dX1_read_35 (by decide) ?_
        refine r_iadd (pc := 36) dX1_read_36 ?_
        replace hf := obind hf
        obtain ⟨S7, e8, hf⟩ := hf
        refine q_putI (pc := 37) dX1_read_37 pX1_29 rfl e8 ?_
        refine r_aload_n (pc := 40) dX1_read_40 rfl ?_
        replace hf := obind hf
        obtain ⟨x9, e10, hf⟩ := hf
        refine q_getI (pc := 41) dX1_read_41 gX1_29 e10 ?_
        refine r_iconst (pc := 44) (5 : Int32) dX1_read_44 (by decide) ?_
        refine r_icmp_ge (pc := 45) 61 dX1_read_45 (by decide) (fun hc => ?_) (fun hc => ?_)
        · rw [if_pos hc] at hf
          refine r_iconst (pc := 61) (0 : Int32) dX1_read_61 (by decide) ?_
          refine r_istore_n (pc := 62) dX1_read_62 (by decide) ?_
          change gW _ _ _ [some (.ref l0), some (.ref l1), some (.int (0 : Int32)), some (.int l3)] _ _ _ _ _ _
          refine r_iinc (pc := 63) dX1_read_63 rfl (by decide) ?_
          change gW _ _ _ [some (.ref l0), some (.ref l1), some (.int (0 : Int32)), some (.int (l3 + (1 : Int32)))] _ _ _ _ _ _
          refine r_goto (pc := 66) 13 dX1_read_66 (by decide) ?_
          cases hf
          exact gW.weak (by simp [gle]) hk
        · rw [if_neg hc] at hf
          refine r_aload_n (pc := 48) dX1_read_48 rfl ?_
          refine r_bipush (pc := 49) (38 : Int32) dX1_read_49 (by decide) ?_
          replace hf := obind hf
          obtain ⟨q11, e12, hf⟩ := hf
          refine q_callV (pc := 51) (v := some (.int q11.1)) (S' := q11.2) mX7_take 7 [.int (38 : Int32)] dX1_read_51 kX1_42 fX7_take iX7_take ⟨by decide, by decide⟩ rfl rfl rfl (Nat.le_of_ble_eq_true rfl) (og e12) (mc1 := 0) (ms1 := 0) (mc2 := mc) (ms2 := ms) (by omega) (by omega) (C_X7_take S7 l1 (38 : Int32) q11 e12 (qR_mk _ _)) ?_
          change gW _ _ _ _ (.int q11.1 :: _) _ _ _ _ _
          refine r_if_eq (pc := 54) 61 dX1_read_54 (by decide) (fun hc => ?_) (fun hc => ?_)
          · rw [if_pos hc] at hf
            refine r_iconst (pc := 61) (0 : Int32) dX1_read_61 (by decide) ?_
            refine r_istore_n (pc := 62) dX1_read_62 (by decide) ?_
            change gW _ _ _ [some (.ref l0), some (.ref l1), some (.int (0 : Int32)), some (.int l3)] _ _ _ _ _ _
            refine r_iinc (pc := 63) dX1_read_63 rfl (by decide) ?_
            change gW _ _ _ [some (.ref l0), some (.ref l1), some (.int (0 : Int32)), some (.int (l3 + (1 : Int32)))] _ _ _ _ _ _
            refine r_goto (pc := 66) 13 dX1_read_66 (by decide) ?_
            cases hf
            exact gW.weak (by simp [gle]) hk
          · rw [if_neg hc] at hf
            refine r_iconst (pc := 57) (1 : Int32) dX1_read_57 (by decide) ?_
            refine r_goto (pc := 58) 62 dX1_read_58 (by decide) ?_
            refine r_istore_n (pc := 62) dX1_read_62 (by decide) ?_
            change gW _ _ _ [some (.ref l0), some (.ref l1), some (.int (1 : Int32)), some (.int l3)] _ _ _ _ _ _
            refine r_iinc (pc := 63) dX1_read_63 rfl (by decide) ?_
            change gW _ _ _ [some (.ref l0), some (.ref l1), some (.int (1 : Int32)), some (.int (l3 + (1 : Int32)))] _ _ _ _ _ _
            refine r_goto (pc := 66) 13 dX1_read_66 (by decide) ?_
            cases hf
            exact gW.weak (by simp [gle]) hk
      · rw [if_neg hc] at hf
        cases hf
        exact gW.weak (by simp [gle]) hk
def F_X1_read_69 (S : pS) (l1 : Nat) : Option (Int32 × pS) := (F_X7_isAtEnd S l1).bind fun q16 => (oZ q16).bind fun x18 => some (x18, S)
set_option maxRecDepth 100000 in
set_option maxHeartbeats 4000000 in
theorem W_X1_read_69 {X : pX} {Q : pO → Nat → pF → Prop} (S : pS) (l1 : Nat) (r : Int32 × pS) (hf : F_X1_read_69 S l1 = some r) (hk : Q (.inl (some (.int r.1))) r.2.1 r.2.2) : gW X mX1_read 69 [none, some (.ref l1), none, none] [] S.1 S.2 Q 0 0 := by
  unfold F_X1_read_69 at hf
  refine r_aload_n (pc := 69) dX1_read_69 rfl ?_
  replace hf := obind hf
  obtain ⟨q16, e17, hf⟩ := hf
  refine q_callV (pc := 70) (v := some (.int q16)) (S' := S) mX7_isAtEnd 7 [] dX1_read_70 kX1_46 fX7_isAtEnd iX7_isAtEnd ⟨by decide, by decide⟩ rfl rfl rfl (Nat.le_of_ble_eq_true rfl) (og e17) (mc1 := 0) (ms1 := 0) (mc2 := 0) (ms2 := 0) (by decide) (by decide) (C_X7_isAtEnd S l1 q16 e17 (qR_mk _ _)) ?_
  change gW _ _ _ _ (.int q16 :: _) _ _ _ _ _
  replace hf := obind hf
  obtain ⟨x18, e19, hf⟩ := hf
  obtain ⟨e19a, e19b⟩ := oZ_some e19
  rw [e19a] at hf
  refine r_ireturn (pc := 73) .boolean dX1_read_73 rfl e19b ?_
  cases hf
  exact hk
def F_X1_read (S : pS) (a0 : Nat) (a1 : Nat) : Option (Int32 × pS) := (oF S a0 1).bind fun _ => (F_X7_start S a1).bind fun q1 => (oPI q1 a0 1 5 (0 : Int32)).bind fun S3 => (iter (F_X1_read_13 a0 a1) fu ((1 : Int32), (0 : Int32), S3)).bind fun r13 => Sum.elim (fun q15 => some ((0 : Int32), q15)) (fun q15 => F_X1_read_69 q15 a1) r13
set_option maxRecDepth 100000 in
set_option maxHeartbeats 4000000 in
theorem C_X1_read {X : pX} {Q : pO → Nat → pF → Prop} (S : pS) (a0 : Nat) (a1 : Nat) (r : Int32 × pS) (hf : F_X1_read S a0 a1 = some r) (hk : Q (.inl (some (.int r.1))) r.2.1 r.2.2) : gC X mX1_read [.ref a0, .ref a1] S.1 S.2 Q 0 0 := by
  refine gC_of (by decide) (Nat.le_of_ble_eq_true rfl) rfl ?_
  change gW _ _ _ [some (.ref a0), some (.ref a1), none, none] _ _ _ _ _ _
  unfold F_X1_read at hf
  obtain ⟨_, _, hf⟩ := obind hf
  refine r_aload_n (pc := 0) dX1_read_0 rfl ?_
  replace hf := obind hf
  obtain ⟨q1, e2, hf⟩ := hf
  refine q_callV (pc := 1) (v := none) (S' := q1) mX7_start 7 [] dX1_read_1 kX1_33 fX7_start iX7_start ⟨by decide, by decide⟩ rfl rfl rfl (Nat.le_of_ble_eq_true rfl) (og e2) (mc1 := 0) (ms1 := 0) (mc2 := 0) (ms2 := 0) (by decide) (by decide) (C_X7_start S a1 q1 e2 (qR_mk _ _)) ?_
  refine r_aload_n (pc := 4) dX1_read_4 rfl ?_
  refine r_iconst (pc := 5) (0 : Int32) dX1_read_5 (by decide) ?_
  replace hf := obind hf
  obtain ⟨S3, e4, hf⟩ := hf
  refine q_putI (pc := 6) dX1_read_6 pX1_29 rfl e4 ?_
  refine r_iconst (pc := 9) (1 : Int32) dX1_read_9 (by decide) ?_
  refine r_istore_n (pc := 10) dX1_read_10 (by decide) ?_
  change gW _ _ _ [some (.ref a0), some (.ref a1), some (.int (1 : Int32)), none] _ _ _ _ _ _
  refine r_iconst (pc := 11) (0 : Int32) dX1_read_11 (by decide) ?_
  refine r_istore_n (pc := 12) dX1_read_12 (by decide) ?_
  change gW _ _ _ [some (.ref a0), some (.ref a1), some (.int (1 : Int32)), some (.int (0 : Int32))] _ _ _ _ _ _
  replace hf := obind hf
  obtain ⟨r13, e14, hf⟩ := hf
  refine gW.weak (ls' := [some (.ref a0), some (.ref a1), some (.int (1 : Int32)), some (.int (0 : Int32))]) (by simp [gle]) ?_
  refine g_iter (L := L_X1_read_13 a0 a1) (s := s_X1_read_13 a0 a1) (K := K_X1_read_13 X Q _ _ a0 a1) (W_X1_read_13 a0 a1) fu ((1 : Int32), (0 : Int32), S3) _ e14 ?_
  rcases r13 with q15 | q15
  · simp only [Sum.elim_inl, Sum.elim_inr] at hf
    show gW _ _ 31 [some (.ref a0), some (.ref a1), none, none] [] q15.1 q15.2 _ _ _
    refine r_iconst (pc := 31) (0 : Int32) dX1_read_31 (by decide) ?_
    refine r_ireturn (pc := 32) .boolean dX1_read_32 rfl rfl ?_
    cases hf
    exact hk
  · simp only [Sum.elim_inl, Sum.elim_inr] at hf
    show gW _ _ 69 [some (.ref a0), some (.ref a1), none, none] [] q15.1 q15.2 _ _ _
    refine gW.mono (mc := 0) (ms := 0) ?_ (fun _ _ _ q => q) (by decide) (by decide)
    exact gW.weak (by simp [gle]) (W_X1_read_69 q15 a1 r hf hk)
def F_X8_presentItems (S : pS) (a0 : Nat) : Option (Int64) := (oF S a0 8).bind fun _ => (oGJ S a0 8 6).bind fun x1 => some x1
set_option maxRecDepth 100000 in
set_option maxHeartbeats 4000000 in
theorem C_X8_presentItems {X : pX} {Q : pO → Nat → pF → Prop} (S : pS) (a0 : Nat) (r : Int64) (hf : F_X8_presentItems S a0 = some r) (hk : Q (.inl (some (.long r))) S.1 S.2) : gC X mX8_presentItems [.ref a0] S.1 S.2 Q 0 0 := by
  refine gC_of (by decide) (Nat.le_of_ble_eq_true rfl) rfl ?_
  change gW _ _ _ [some (.ref a0)] _ _ _ _ _ _
  unfold F_X8_presentItems at hf
  obtain ⟨_, _, hf⟩ := obind hf
  refine r_aload_n (pc := 0) dX8_presentItems_0 rfl ?_
  replace hf := obind hf
  obtain ⟨x1, e2, hf⟩ := hf
  refine q_getJ (pc := 1) dX8_presentItems_1 gX8_31 e2 ?_
  refine r_lreturn (pc := 4) dX8_presentItems_4 rfl ?_
  cases hf
  exact hk
def F_X8_doneItems (S : pS) (a0 : Nat) : Option (Int64) := (oF S a0 8).bind fun _ => (oGJ S a0 8 7).bind fun x1 => some x1
set_option maxRecDepth 100000 in
set_option maxHeartbeats 4000000 in
theorem C_X8_doneItems {X : pX} {Q : pO → Nat → pF → Prop} (S : pS) (a0 : Nat) (r : Int64) (hf : F_X8_doneItems S a0 = some r) (hk : Q (.inl (some (.long r))) S.1 S.2) : gC X mX8_doneItems [.ref a0] S.1 S.2 Q 0 0 := by
  refine gC_of (by decide) (Nat.le_of_ble_eq_true rfl) rfl ?_
  change gW _ _ _ [some (.ref a0)] _ _ _ _ _ _
  unfold F_X8_doneItems at hf
  obtain ⟨_, _, hf⟩ := obind hf
  refine r_aload_n (pc := 0) dX8_doneItems_0 rfl ?_
  replace hf := obind hf
  obtain ⟨x1, e2, hf⟩ := hf
  refine q_getJ (pc := 1) dX8_doneItems_1 gX8_35 e2 ?_
  refine r_lreturn (pc := 4) dX8_doneItems_4 rfl ?_
  cases hf
  exact hk
def F_X9_contains (S : pS) (a0 : Int64) (a1 : Int32) : Option (Int32) := if (lg_cmp (((a0.toUInt64 >>> (a1.toInt64.toUInt64 &&& Int64.toUInt64 63)).toInt64) &&& (1 : Int64)) (0 : Int64)) = 0 then (some (0 : Int32)) else (some (1 : Int32))
set_option maxRecDepth 100000 in
set_option maxHeartbeats 4000000 in
theorem C_X9_contains {X : pX} {Q : pO → Nat → pF → Prop} (S : pS) (a0 : Int64) (a1 : Int32) (r : Int32) (hf : F_X9_contains S a0 a1 = some r) (hk : Q (.inl (some (.int r))) S.1 S.2) : gC X mX9_contains [.long a0, .int a1] S.1 S.2 Q 0 0 := by
  refine gC_of (by decide) (Nat.le_of_ble_eq_true rfl) rfl ?_
  change gW _ _ _ [some (.long a0), none, some (.int a1)] _ _ _ _ _ _
  unfold F_X9_contains at hf
  refine r_lload_n (pc := 0) dX9_contains_0 rfl ?_
  refine r_iload_n (pc := 1) dX9_contains_1 rfl ?_
  refine r_lushr (pc := 2) dX9_contains_2 ?_
  refine r_lconst (pc := 3) (1 : Int64) dX9_contains_3 (by decide) ?_
  refine r_land (pc := 4) dX9_contains_4 ?_
  refine r_lconst (pc := 5) (0 : Int64) dX9_contains_5 (by decide) ?_
  refine r_lcmp (pc := 6) dX9_contains_6 ?_
  refine r_if_eq (pc := 7) 14 dX9_contains_7 (by decide) (fun hc => ?_) (fun hc => ?_)
  · rw [if_pos hc] at hf
    refine r_iconst (pc := 14) (0 : Int32) dX9_contains_14 (by decide) ?_
    refine r_ireturn (pc := 15) .boolean dX9_contains_15 rfl rfl ?_
    cases hf
    exact hk
  · rw [if_neg hc] at hf
    refine r_iconst (pc := 10) (1 : Int32) dX9_contains_10 (by decide) ?_
    refine r_goto (pc := 11) 15 dX9_contains_11 (by decide) ?_
    refine r_ireturn (pc := 15) .boolean dX9_contains_15 rfl rfl ?_
    cases hf
    exact hk
def F_X8_holds (S : pS) (a0 : Nat) (a1 : Int32) : Option (Int32) := (oF S a0 8).bind fun _ => if a1 < 0 then (some (0 : Int32)) else (if (61 : Int32) ≤ a1 then (some (0 : Int32)) else ((oGJ S a0 8 6).bind fun x1 => (F_X9_contains S x1 a1).bind fun q3 => if q3 = 0 then (some (0 : Int32)) else (some (1 : Int32))))
set_option maxRecDepth 100000 in
set_option maxHeartbeats 4000000 in
theorem C_X8_holds {X : pX} {Q : pO → Nat → pF → Prop} (S : pS) (a0 : Nat) (a1 : Int32) (r : Int32) (hf : F_X8_holds S a0 a1 = some r) (hk : Q (.inl (some (.int r))) S.1 S.2) : gC X mX8_holds [.ref a0, .int a1] S.1 S.2 Q 0 0 := by
  refine gC_of (by decide) (Nat.le_of_ble_eq_true rfl) rfl ?_
  change gW _ _ _ [some (.ref a0), some (.int a1)] _ _ _ _ _ _
  unfold F_X8_holds at hf
  obtain ⟨_, _, hf⟩ := obind hf
  refine r_iload_n (pc := 0) dX8_holds_0 rfl ?_
  refine r_if_lt (pc := 1) 25 dX8_holds_1 (by decide) (fun hc => ?_) (fun hc => ?_)
  · rw [if_pos hc] at hf
    refine r_iconst (pc := 25) (0 : Int32) dX8_holds_25 (by decide) ?_
    refine r_ireturn (pc := 26) .boolean dX8_holds_26 rfl rfl ?_
    cases hf
    exact hk
  · rw [if_neg hc] at hf
    refine r_iload_n (pc := 4) dX8_holds_4 rfl ?_
    refine r_bipush (pc := 5) (61 : Int32) dX8_holds_5 (by decide) ?_
    refine r_icmp_ge (pc := 7) 25 dX8_holds_7 (by decide) (fun hc => ?_) (fun hc => ?_)
    · rw [if_pos hc] at hf
      refine r_iconst (pc := 25) (0 : Int32) dX8_holds_25 (by decide) ?_
      refine r_ireturn (pc := 26) .boolean dX8_holds_26 rfl rfl ?_
      cases hf
      exact hk
    · rw [if_neg hc] at hf
      refine r_aload_n (pc := 10) dX8_holds_10 rfl ?_
      replace hf := obind hf
      obtain ⟨x1, e2, hf⟩ := hf
      refine q_getJ (pc := 11) dX8_holds_11 gX8_31 e2 ?_
      refine r_iload_n (pc := 14) dX8_holds_14 rfl ?_
      replace hf := obind hf
      obtain ⟨q3, e4, hf⟩ := hf
      refine q_callSN (pc := 15) (v := some (.int q3)) (S' := S) mX9_contains [.long x1, .int a1] dX8_holds_15 kX8_51 fX9_contains sX9_contains ⟨by decide, by decide⟩ rfl rfl (Nat.le_of_ble_eq_true rfl) (mc1 := 0) (ms1 := 0) (mc2 := 0) (ms2 := 0) (by decide) (by decide) (C_X9_contains S x1 a1 q3 e4 (qR_mk _ _)) ?_
      change gW _ _ _ _ (.int q3 :: _) _ _ _ _ _
      refine r_if_eq (pc := 18) 25 dX8_holds_18 (by decide) (fun hc => ?_) (fun hc => ?_)
      · rw [if_pos hc] at hf
        refine r_iconst (pc := 25) (0 : Int32) dX8_holds_25 (by decide) ?_
        refine r_ireturn (pc := 26) .boolean dX8_holds_26 rfl rfl ?_
        cases hf
        exact hk
      · rw [if_neg hc] at hf
        refine r_iconst (pc := 21) (1 : Int32) dX8_holds_21 (by decide) ?_
        refine r_goto (pc := 22) 26 dX8_holds_22 (by decide) ?_
        refine r_ireturn (pc := 26) .boolean dX8_holds_26 rfl rfl ?_
        cases hf
        exact hk
def F_X9_with (S : pS) (a0 : Int64) (a1 : Int32) (a2 : Int32) : Option (Int64) := if a2 = 0 then (some (a0 &&& (((1 : Int64) <<< (a1.toInt64 &&& 63)) ^^^ (-1 : Int64)))) else (some (a0 ||| ((1 : Int64) <<< (a1.toInt64 &&& 63))))
set_option maxRecDepth 100000 in
set_option maxHeartbeats 4000000 in
theorem C_X9_with {X : pX} {Q : pO → Nat → pF → Prop} (S : pS) (a0 : Int64) (a1 : Int32) (a2 : Int32) (r : Int64) (hf : F_X9_with S a0 a1 a2 = some r) (hk : Q (.inl (some (.long r))) S.1 S.2) : gC X mX9_with [.long a0, .int a1, .int a2] S.1 S.2 Q 0 0 := by
  refine gC_of (by decide) (Nat.le_of_ble_eq_true rfl) rfl ?_
  change gW _ _ _ [some (.long a0), none, some (.int a1), some (.int a2)] _ _ _ _ _ _
  unfold F_X9_with at hf
  refine r_iload_n (pc := 0) dX9_with_0 rfl ?_
  refine r_if_eq (pc := 1) 12 dX9_with_1 (by decide) (fun hc => ?_) (fun hc => ?_)
  · rw [if_pos hc] at hf
    refine r_lload_n (pc := 12) dX9_with_12 rfl ?_
    refine r_lconst (pc := 13) (1 : Int64) dX9_with_13 (by decide) ?_
    refine r_iload_n (pc := 14) dX9_with_14 rfl ?_
    refine r_lshl (pc := 15) dX9_with_15 ?_
    refine r_ldc2 (pc := 16) dX9_with_16 kX9_453 ?_
    refine r_lxor (pc := 19) dX9_with_19 ?_
    refine r_land (pc := 20) dX9_with_20 ?_
    refine r_lreturn (pc := 21) dX9_with_21 rfl ?_
    cases hf
    exact hk
  · rw [if_neg hc] at hf
    refine r_lload_n (pc := 4) dX9_with_4 rfl ?_
    refine r_lconst (pc := 5) (1 : Int64) dX9_with_5 (by decide) ?_
    refine r_iload_n (pc := 6) dX9_with_6 rfl ?_
    refine r_lshl (pc := 7) dX9_with_7 ?_
    refine r_lor (pc := 8) dX9_with_8 ?_
    refine r_goto (pc := 9) 21 dX9_with_9 (by decide) ?_
    refine r_lreturn (pc := 21) dX9_with_21 rfl ?_
    cases hf
    exact hk
abbrev L_X8_datedItems_4 (l0 : Nat) (S : pS) : Int64 × Int32 → List (Option Value) := fun a => [some (.ref l0), some (.long a.1), none, some (.int a.2)]
abbrev s_X8_datedItems_4 (l0 : Nat) (S : pS) : Int64 × Int32 → pS := fun a => S
abbrev K_X8_datedItems_4 (X : pX) (Q : pO → Nat → pF → Prop) (mc ms : Nat) (l0 : Nat) (S : pS) : Int64 → Prop := (fun b => gW X mX8_datedItems 45 [some (.ref l0), some (.long b), none, none] [] S.1 S.2 Q mc ms)
def F_X8_datedItems_35 (l0 : Nat) (S : pS) (l3 : Int32) (t0 : Int64) (t1 : Int32) (t2 : Int32) : Option ((Int64 × Int32) ⊕ (Int64)) := (F_X9_with S t0 t1 t2).bind fun q3 => some (.inl (q3, l3 + (1 : Int32)))
set_option maxRecDepth 100000 in
set_option maxHeartbeats 4000000 in
theorem W_X8_datedItems_35 {X : pX} {Q : pO → Nat → pF → Prop} {mc ms : Nat} (l0 : Nat) (S : pS) (l3 : Int32) (t0 : Int64) (t1 : Int32) (t2 : Int32) (r : (Int64 × Int32) ⊕ (Int64)) (hf : F_X8_datedItems_35 l0 S l3 t0 t1 t2 = some r) (hk : Sum.elim (fun a' => gW X mX8_datedItems 4 (L_X8_datedItems_4 l0 S a') [] (s_X8_datedItems_4 l0 S a').1 (s_X8_datedItems_4 l0 S a').2 Q mc ms) (K_X8_datedItems_4 X Q mc ms l0 S) r) : gW X mX8_datedItems 35 [some (.ref l0), none, none, some (.int l3)] [.int t2, .int t1, .long t0] S.1 S.2 Q mc ms := by
  unfold F_X8_datedItems_35 at hf
  replace hf := obind hf
  obtain ⟨q3, e4, hf⟩ := hf
  refine q_callSN (pc := 35) (v := some (.long q3)) (S' := S) mX9_with [.long t0, .int t1, .int t2] dX8_datedItems_35 kX8_61 fX9_with sX9_with ⟨by decide, by decide⟩ rfl rfl (Nat.le_of_ble_eq_true rfl) (mc1 := 0) (ms1 := 0) (mc2 := mc) (ms2 := ms) (by omega) (by omega) (C_X9_with S t0 t1 t2 q3 e4 (qR_mk _ _)) ?_
  change gW _ _ _ _ (.long q3 :: _) _ _ _ _ _
  refine r_lstore_n (pc := 38) dX8_datedItems_38 (by decide) ?_
  change gW _ _ _ [some (.ref l0), some (.long q3), none, some (.int l3)] _ _ _ _ _ _
  refine r_iinc (pc := 39) dX8_datedItems_39 rfl (by decide) ?_
  change gW _ _ _ [some (.ref l0), some (.long q3), none, some (.int (l3 + (1 : Int32)))] _ _ _ _ _ _
  refine r_goto (pc := 42) 4 dX8_datedItems_42 (by decide) ?_
  cases hf
  exact gW.weak (by simp [gle]) hk
def F_X8_datedItems_34 (l0 : Nat) (S : pS) (l3 : Int32) (t0 : Int64) (t1 : Int32) : Option ((Int64 × Int32) ⊕ (Int64)) := F_X8_datedItems_35 l0 S l3 t0 t1 (0 : Int32)
set_option maxRecDepth 100000 in
set_option maxHeartbeats 4000000 in
theorem W_X8_datedItems_34 {X : pX} {Q : pO → Nat → pF → Prop} {mc ms : Nat} (l0 : Nat) (S : pS) (l3 : Int32) (t0 : Int64) (t1 : Int32) (r : (Int64 × Int32) ⊕ (Int64)) (hf : F_X8_datedItems_34 l0 S l3 t0 t1 = some r) (hk : Sum.elim (fun a' => gW X mX8_datedItems 4 (L_X8_datedItems_4 l0 S a') [] (s_X8_datedItems_4 l0 S a').1 (s_X8_datedItems_4 l0 S a').2 Q mc ms) (K_X8_datedItems_4 X Q mc ms l0 S) r) : gW X mX8_datedItems 34 [some (.ref l0), none, none, some (.int l3)] [.int t1, .long t0] S.1 S.2 Q mc ms := by
  unfold F_X8_datedItems_34 at hf
  refine r_iconst (pc := 34) (0 : Int32) dX8_datedItems_34 (by decide) ?_
  exact gW.weak (by simp [gle]) (W_X8_datedItems_35 l0 S l3 t0 t1 (0 : Int32) r hf hk)
def F_X8_datedItems_4 (l0 : Nat) (S : pS) : Int64 × Int32 → Option ((Int64 × Int32) ⊕ (Int64)) := fun a => if (61 : Int32) ≤ a.2 then (some (.inr a.1)) else ((F_X8_holds S l0 a.2).bind fun q1 => if q1 = 0 then (F_X8_datedItems_34 l0 S a.2 a.1 a.2) else ((oGA S l0 8 5).bind fun x5 => (oAI S x5 .int a.2).bind fun x7 => if x7 = (-1 : Int32) then (F_X8_datedItems_34 l0 S a.2 a.1 a.2) else (F_X8_datedItems_35 l0 S a.2 a.1 a.2 (1 : Int32))))
set_option maxRecDepth 100000 in
set_option maxHeartbeats 4000000 in
theorem W_X8_datedItems_4 {X : pX} {Q : pO → Nat → pF → Prop} {mc ms : Nat} (l0 : Nat) (S : pS) : ∀ (a : Int64 × Int32) (r : (Int64 × Int32) ⊕ (Int64)), F_X8_datedItems_4 l0 S a = some r → Sum.elim (fun a' => gW X mX8_datedItems 4 (L_X8_datedItems_4 l0 S a') [] (s_X8_datedItems_4 l0 S a').1 (s_X8_datedItems_4 l0 S a').2 Q mc ms) (K_X8_datedItems_4 X Q mc ms l0 S) r → gW X mX8_datedItems 4 (L_X8_datedItems_4 l0 S a) [] (s_X8_datedItems_4 l0 S a).1 (s_X8_datedItems_4 l0 S a).2 Q mc ms := by
  intro a r hf hk
  obtain ⟨l1, l3⟩ := a
  unfold F_X8_datedItems_4 at hf
  try dsimp only at hf
  change gW _ _ _ [some (.ref l0), some (.long l1), none, some (.int l3)] _ S.1 S.2 _ _ _
  refine r_iload_n (pc := 4) dX8_datedItems_4 rfl ?_
  refine r_bipush (pc := 5) (61 : Int32) dX8_datedItems_5 (by decide) ?_
  refine r_icmp_ge (pc := 7) 45 dX8_datedItems_7 (by decide) (fun hc => ?_) (fun hc => ?_)
  · rw [if_pos hc] at hf
    cases hf
    exact gW.weak (by simp [gle]) hk
  · rw [if_neg hc] at hf
    refine r_lload_n (pc := 10) dX8_datedItems_10 rfl ?_
    refine r_iload_n (pc := 11) dX8_datedItems_11 rfl ?_
    refine r_aload_n (pc := 12) dX8_datedItems_12 rfl ?_
    refine r_iload_n (pc := 13) dX8_datedItems_13 rfl ?_
    replace hf := obind hf
    obtain ⟨q1, e2, hf⟩ := hf
    refine q_callV (pc := 14) (v := some (.int q1)) (S' := S) mX8_holds 8 [.int l3] dX8_datedItems_14 kX8_75 fX8_holds iX8_holds ⟨by decide, by decide⟩ rfl rfl rfl (Nat.le_of_ble_eq_true rfl) (og e2) (mc1 := 0) (ms1 := 0) (mc2 := mc) (ms2 := ms) (by omega) (by omega) (C_X8_holds S l0 l3 q1 e2 (qR_mk _ _)) ?_
    change gW _ _ _ _ (.int q1 :: _) _ _ _ _ _
    refine r_if_eq (pc := 17) 34 dX8_datedItems_17 (by decide) (fun hc => ?_) (fun hc => ?_)
    · rw [if_pos hc] at hf
      exact gW.weak (by simp [gle]) (W_X8_datedItems_34 l0 S l3 l1 l3 r hf hk)
    · rw [if_neg hc] at hf
      refine r_aload_n (pc := 20) dX8_datedItems_20 rfl ?_
      replace hf := obind hf
      obtain ⟨x5, e6, hf⟩ := hf
      refine q_getA (pc := 21) dX8_datedItems_21 gX8_28 e6 ?_
      refine r_iload_n (pc := 24) dX8_datedItems_24 rfl ?_
      replace hf := obind hf
      obtain ⟨x7, e8, hf⟩ := hf
      refine q_iald (pc := 25) dX8_datedItems_25 e8 ?_
      refine r_iconst (pc := 26) (-1 : Int32) dX8_datedItems_26 (by decide) ?_
      refine r_icmp_eq (pc := 27) 34 dX8_datedItems_27 (by decide) (fun hc => ?_) (fun hc => ?_)
      · rw [if_pos hc] at hf
        exact gW.weak (by simp [gle]) (W_X8_datedItems_34 l0 S l3 l1 l3 r hf hk)
      · rw [if_neg hc] at hf
        refine r_iconst (pc := 30) (1 : Int32) dX8_datedItems_30 (by decide) ?_
        refine r_goto (pc := 31) 35 dX8_datedItems_31 (by decide) ?_
        exact gW.weak (by simp [gle]) (W_X8_datedItems_35 l0 S l3 l1 l3 (1 : Int32) r hf hk)
def F_X8_datedItems (S : pS) (a0 : Nat) : Option (Int64) := (oF S a0 8).bind fun _ => (iter (F_X8_datedItems_4 a0 S) fu ((0 : Int64), (0 : Int32))).bind fun r9 => some r9
set_option maxRecDepth 100000 in
set_option maxHeartbeats 4000000 in
theorem C_X8_datedItems {X : pX} {Q : pO → Nat → pF → Prop} (S : pS) (a0 : Nat) (r : Int64) (hf : F_X8_datedItems S a0 = some r) (hk : Q (.inl (some (.long r))) S.1 S.2) : gC X mX8_datedItems [.ref a0] S.1 S.2 Q 0 0 := by
  refine gC_of (by decide) (Nat.le_of_ble_eq_true rfl) rfl ?_
  change gW _ _ _ [some (.ref a0), none, none, none] _ _ _ _ _ _
  unfold F_X8_datedItems at hf
  obtain ⟨_, _, hf⟩ := obind hf
  refine r_lconst (pc := 0) (0 : Int64) dX8_datedItems_0 (by decide) ?_
  refine r_lstore_n (pc := 1) dX8_datedItems_1 (by decide) ?_
  change gW _ _ _ [some (.ref a0), some (.long (0 : Int64)), none, none] _ _ _ _ _ _
  refine r_iconst (pc := 2) (0 : Int32) dX8_datedItems_2 (by decide) ?_
  refine r_istore_n (pc := 3) dX8_datedItems_3 (by decide) ?_
  change gW _ _ _ [some (.ref a0), some (.long (0 : Int64)), none, some (.int (0 : Int32))] _ _ _ _ _ _
  replace hf := obind hf
  obtain ⟨r9, e10, hf⟩ := hf
  refine gW.weak (ls' := [some (.ref a0), some (.long (0 : Int64)), none, some (.int (0 : Int32))]) (by simp [gle]) ?_
  refine g_iter (L := L_X8_datedItems_4 a0 S) (s := s_X8_datedItems_4 a0 S) (K := K_X8_datedItems_4 X Q _ _ a0 S) (W_X8_datedItems_4 a0 S) fu ((0 : Int64), (0 : Int32)) _ e10 ?_
  show gW _ _ 45 [some (.ref a0), some (.long r9), none, none] [] S.1 S.2 _ _ _
  refine r_lload_n (pc := 45) dX8_datedItems_45 rfl ?_
  refine r_lreturn (pc := 46) dX8_datedItems_46 rfl ?_
  cases hf
  exact hk
abbrev L_X8_leafItems_4 (l0 : Nat) (S : pS) : Int64 × Int32 → List (Option Value) := fun a => [some (.ref l0), some (.long a.1), none, some (.int a.2)]
abbrev s_X8_leafItems_4 (l0 : Nat) (S : pS) : Int64 × Int32 → pS := fun a => S
abbrev K_X8_leafItems_4 (X : pX) (Q : pO → Nat → pF → Prop) (mc ms : Nat) (l0 : Nat) (S : pS) : Int64 → Prop := (fun b => gW X mX8_leafItems 44 [some (.ref l0), some (.long b), none, none] [] S.1 S.2 Q mc ms)
def F_X8_leafItems_34 (l0 : Nat) (S : pS) (l3 : Int32) (t0 : Int64) (t1 : Int32) (t2 : Int32) : Option ((Int64 × Int32) ⊕ (Int64)) := (F_X9_with S t0 t1 t2).bind fun q3 => some (.inl (q3, l3 + (1 : Int32)))
set_option maxRecDepth 100000 in
set_option maxHeartbeats 4000000 in
theorem W_X8_leafItems_34 {X : pX} {Q : pO → Nat → pF → Prop} {mc ms : Nat} (l0 : Nat) (S : pS) (l3 : Int32) (t0 : Int64) (t1 : Int32) (t2 : Int32) (r : (Int64 × Int32) ⊕ (Int64)) (hf : F_X8_leafItems_34 l0 S l3 t0 t1 t2 = some r) (hk : Sum.elim (fun a' => gW X mX8_leafItems 4 (L_X8_leafItems_4 l0 S a') [] (s_X8_leafItems_4 l0 S a').1 (s_X8_leafItems_4 l0 S a').2 Q mc ms) (K_X8_leafItems_4 X Q mc ms l0 S) r) : gW X mX8_leafItems 34 [some (.ref l0), none, none, some (.int l3)] [.int t2, .int t1, .long t0] S.1 S.2 Q mc ms := by
  unfold F_X8_leafItems_34 at hf
  replace hf := obind hf
  obtain ⟨q3, e4, hf⟩ := hf
  refine q_callSN (pc := 34) (v := some (.long q3)) (S' := S) mX9_with [.long t0, .int t1, .int t2] dX8_leafItems_34 kX8_61 fX9_with sX9_with ⟨by decide, by decide⟩ rfl rfl (Nat.le_of_ble_eq_true rfl) (mc1 := 0) (ms1 := 0) (mc2 := mc) (ms2 := ms) (by omega) (by omega) (C_X9_with S t0 t1 t2 q3 e4 (qR_mk _ _)) ?_
  change gW _ _ _ _ (.long q3 :: _) _ _ _ _ _
  refine r_lstore_n (pc := 37) dX8_leafItems_37 (by decide) ?_
  change gW _ _ _ [some (.ref l0), some (.long q3), none, some (.int l3)] _ _ _ _ _ _
  refine r_iinc (pc := 38) dX8_leafItems_38 rfl (by decide) ?_
  change gW _ _ _ [some (.ref l0), some (.long q3), none, some (.int (l3 + (1 : Int32)))] _ _ _ _ _ _
  refine r_goto (pc := 41) 4 dX8_leafItems_41 (by decide) ?_
  cases hf
  exact gW.weak (by simp [gle]) hk
def F_X8_leafItems_33 (l0 : Nat) (S : pS) (l3 : Int32) (t0 : Int64) (t1 : Int32) : Option ((Int64 × Int32) ⊕ (Int64)) := F_X8_leafItems_34 l0 S l3 t0 t1 (0 : Int32)
set_option maxRecDepth 100000 in
set_option maxHeartbeats 4000000 in
theorem W_X8_leafItems_33 {X : pX} {Q : pO → Nat → pF → Prop} {mc ms : Nat} (l0 : Nat) (S : pS) (l3 : Int32) (t0 : Int64) (t1 : Int32) (r : (Int64 × Int32) ⊕ (Int64)) (hf : F_X8_leafItems_33 l0 S l3 t0 t1 = some r) (hk : Sum.elim (fun a' => gW X mX8_leafItems 4 (L_X8_leafItems_4 l0 S a') [] (s_X8_leafItems_4 l0 S a').1 (s_X8_leafItems_4 l0 S a').2 Q mc ms) (K_X8_leafItems_4 X Q mc ms l0 S) r) : gW X mX8_leafItems 33 [some (.ref l0), none, none, some (.int l3)] [.int t1, .long t0] S.1 S.2 Q mc ms := by
  unfold F_X8_leafItems_33 at hf
  refine r_iconst (pc := 33) (0 : Int32) dX8_leafItems_33 (by decide) ?_
  exact gW.weak (by simp [gle]) (W_X8_leafItems_34 l0 S l3 t0 t1 (0 : Int32) r hf hk)
def F_X8_leafItems_4 (l0 : Nat) (S : pS) : Int64 × Int32 → Option ((Int64 × Int32) ⊕ (Int64)) := fun a => if (61 : Int32) ≤ a.2 then (some (.inr a.1)) else ((F_X8_holds S l0 a.2).bind fun q1 => if q1 = 0 then (F_X8_leafItems_33 l0 S a.2 a.1 a.2) else ((oGA S l0 8 0).bind fun x5 => (oAI S x5 .int a.2).bind fun x7 => if ¬ x7 = 0 then (F_X8_leafItems_33 l0 S a.2 a.1 a.2) else (F_X8_leafItems_34 l0 S a.2 a.1 a.2 (1 : Int32))))
set_option maxRecDepth 100000 in
set_option maxHeartbeats 4000000 in
theorem W_X8_leafItems_4 {X : pX} {Q : pO → Nat → pF → Prop} {mc ms : Nat} (l0 : Nat) (S : pS) : ∀ (a : Int64 × Int32) (r : (Int64 × Int32) ⊕ (Int64)), F_X8_leafItems_4 l0 S a = some r → Sum.elim (fun a' => gW X mX8_leafItems 4 (L_X8_leafItems_4 l0 S a') [] (s_X8_leafItems_4 l0 S a').1 (s_X8_leafItems_4 l0 S a').2 Q mc ms) (K_X8_leafItems_4 X Q mc ms l0 S) r → gW X mX8_leafItems 4 (L_X8_leafItems_4 l0 S a) [] (s_X8_leafItems_4 l0 S a).1 (s_X8_leafItems_4 l0 S a).2 Q mc ms := by
  intro a r hf hk
  obtain ⟨l1, l3⟩ := a
  unfold F_X8_leafItems_4 at hf
  try dsimp only at hf
  change gW _ _ _ [some (.ref l0), some (.long l1), none, some (.int l3)] _ S.1 S.2 _ _ _
  refine r_iload_n (pc := 4) dX8_leafItems_4 rfl ?_
  refine r_bipush (pc := 5) (61 : Int32) dX8_leafItems_5 (by decide) ?_
  refine r_icmp_ge (pc := 7) 44 dX8_leafItems_7 (by decide) (fun hc => ?_) (fun hc => ?_)
  · rw [if_pos hc] at hf
    cases hf
    exact gW.weak (by simp [gle]) hk
  · rw [if_neg hc] at hf
    refine r_lload_n (pc := 10) dX8_leafItems_10 rfl ?_
    refine r_iload_n (pc := 11) dX8_leafItems_11 rfl ?_
    refine r_aload_n (pc := 12) dX8_leafItems_12 rfl ?_
    refine r_iload_n (pc := 13) dX8_leafItems_13 rfl ?_
    replace hf := obind hf
    obtain ⟨q1, e2, hf⟩ := hf
    refine q_callV (pc := 14) (v := some (.int q1)) (S' := S) mX8_holds 8 [.int l3] dX8_leafItems_14 kX8_75 fX8_holds iX8_holds ⟨by decide, by decide⟩ rfl rfl rfl (Nat.le_of_ble_eq_true rfl) (og e2) (mc1 := 0) (ms1 := 0) (mc2 := mc) (ms2 := ms) (by omega) (by omega) (C_X8_holds S l0 l3 q1 e2 (qR_mk _ _)) ?_
    change gW _ _ _ _ (.int q1 :: _) _ _ _ _ _
    refine r_if_eq (pc := 17) 33 dX8_leafItems_17 (by decide) (fun hc => ?_) (fun hc => ?_)
    · rw [if_pos hc] at hf
      exact gW.weak (by simp [gle]) (W_X8_leafItems_33 l0 S l3 l1 l3 r hf hk)
    · rw [if_neg hc] at hf
      refine r_aload_n (pc := 20) dX8_leafItems_20 rfl ?_
      replace hf := obind hf
      obtain ⟨x5, e6, hf⟩ := hf
      refine q_getA (pc := 21) dX8_leafItems_21 gX8_9 e6 ?_
      refine r_iload_n (pc := 24) dX8_leafItems_24 rfl ?_
      replace hf := obind hf
      obtain ⟨x7, e8, hf⟩ := hf
      refine q_iald (pc := 25) dX8_leafItems_25 e8 ?_
      refine r_if_ne (pc := 26) 33 dX8_leafItems_26 (by decide) (fun hc => ?_) (fun hc => ?_)
      · rw [if_pos hc] at hf
        exact gW.weak (by simp [gle]) (W_X8_leafItems_33 l0 S l3 l1 l3 r hf hk)
      · rw [if_neg hc] at hf
        refine r_iconst (pc := 29) (1 : Int32) dX8_leafItems_29 (by decide) ?_
        refine r_goto (pc := 30) 34 dX8_leafItems_30 (by decide) ?_
        exact gW.weak (by simp [gle]) (W_X8_leafItems_34 l0 S l3 l1 l3 (1 : Int32) r hf hk)
def F_X8_leafItems (S : pS) (a0 : Nat) : Option (Int64) := (oF S a0 8).bind fun _ => (iter (F_X8_leafItems_4 a0 S) fu ((0 : Int64), (0 : Int32))).bind fun r9 => some r9
set_option maxRecDepth 100000 in
set_option maxHeartbeats 4000000 in
theorem C_X8_leafItems {X : pX} {Q : pO → Nat → pF → Prop} (S : pS) (a0 : Nat) (r : Int64) (hf : F_X8_leafItems S a0 = some r) (hk : Q (.inl (some (.long r))) S.1 S.2) : gC X mX8_leafItems [.ref a0] S.1 S.2 Q 0 0 := by
  refine gC_of (by decide) (Nat.le_of_ble_eq_true rfl) rfl ?_
  change gW _ _ _ [some (.ref a0), none, none, none] _ _ _ _ _ _
  unfold F_X8_leafItems at hf
  obtain ⟨_, _, hf⟩ := obind hf
  refine r_lconst (pc := 0) (0 : Int64) dX8_leafItems_0 (by decide) ?_
  refine r_lstore_n (pc := 1) dX8_leafItems_1 (by decide) ?_
  change gW _ _ _ [some (.ref a0), some (.long (0 : Int64)), none, none] _ _ _ _ _ _
  refine r_iconst (pc := 2) (0 : Int32) dX8_leafItems_2 (by decide) ?_
  refine r_istore_n (pc := 3) dX8_leafItems_3 (by decide) ?_
  change gW _ _ _ [some (.ref a0), some (.long (0 : Int64)), none, some (.int (0 : Int32))] _ _ _ _ _ _
  replace hf := obind hf
  obtain ⟨r9, e10, hf⟩ := hf
  refine gW.weak (ls' := [some (.ref a0), some (.long (0 : Int64)), none, some (.int (0 : Int32))]) (by simp [gle]) ?_
  refine g_iter (L := L_X8_leafItems_4 a0 S) (s := s_X8_leafItems_4 a0 S) (K := K_X8_leafItems_4 X Q _ _ a0 S) (W_X8_leafItems_4 a0 S) fu ((0 : Int64), (0 : Int32)) _ e10 ?_
  show gW _ _ 44 [some (.ref a0), some (.long r9), none, none] [] S.1 S.2 _ _ _
  refine r_lload_n (pc := 44) dX8_leafItems_44 rfl ?_
  refine r_lreturn (pc := 45) dX8_leafItems_45 rfl ?_
  cases hf
  exact hk
abbrev L_X6_itemsWithManyPlaces_4 (l0 : Nat) (S : pS) : Int64 × Int32 → List (Option Value) := fun a => [some (.ref l0), some (.long a.1), none, some (.int a.2)]
abbrev s_X6_itemsWithManyPlaces_4 (l0 : Nat) (S : pS) : Int64 × Int32 → pS := fun a => S
abbrev K_X6_itemsWithManyPlaces_4 (X : pX) (Q : pO → Nat → pF → Prop) (mc ms : Nat) (l0 : Nat) (S : pS) : Int64 → Prop := (fun b => gW X mX6_itemsWithManyPlaces 49 [some (.ref l0), some (.long b), none, none] [] S.1 S.2 Q mc ms)
def F_X6_itemsWithManyPlaces_39 (l0 : Nat) (S : pS) (l3 : Int32) (t0 : Int64) (t1 : Int32) (t2 : Int32) : Option ((Int64 × Int32) ⊕ (Int64)) := (F_X9_with S t0 t1 t2).bind fun q15 => some (.inl (q15, l3 + (1 : Int32)))
set_option maxRecDepth 100000 in
set_option maxHeartbeats 4000000 in
theorem W_X6_itemsWithManyPlaces_39 {X : pX} {Q : pO → Nat → pF → Prop} {mc ms : Nat} (l0 : Nat) (S : pS) (l3 : Int32) (t0 : Int64) (t1 : Int32) (t2 : Int32) (r : (Int64 × Int32) ⊕ (Int64)) (hf : F_X6_itemsWithManyPlaces_39 l0 S l3 t0 t1 t2 = some r) (hk : Sum.elim (fun a' => gW X mX6_itemsWithManyPlaces 4 (L_X6_itemsWithManyPlaces_4 l0 S a') [] (s_X6_itemsWithManyPlaces_4 l0 S a').1 (s_X6_itemsWithManyPlaces_4 l0 S a').2 Q mc ms) (K_X6_itemsWithManyPlaces_4 X Q mc ms l0 S) r) : gW X mX6_itemsWithManyPlaces 39 [some (.ref l0), none, none, some (.int l3)] [.int t2, .int t1, .long t0] S.1 S.2 Q mc ms := by
  unfold F_X6_itemsWithManyPlaces_39 at hf
  replace hf := obind hf
  obtain ⟨q15, e16, hf⟩ := hf
  refine q_callSN (pc := 39) (v := some (.long q15)) (S' := S) mX9_with [.long t0, .int t1, .int t2] dX6_itemsWithManyPlaces_39 kX6_74 fX9_with sX9_with ⟨by decide, by decide⟩ rfl rfl (Nat.le_of_ble_eq_true rfl) (mc1 := 0) (ms1 := 0) (mc2 := mc) (ms2 := ms) (by omega) (by omega) (C_X9_with S t0 t1 t2 q15 e16 (qR_mk _ _)) ?_
  change gW _ _ _ _ (.long q15 :: _) _ _ _ _ _
  refine r_lstore_n (pc := 42) dX6_itemsWithManyPlaces_42 (by decide) ?_
  change gW _ _ _ [some (.ref l0), some (.long q15), none, some (.int l3)] _ _ _ _ _ _
  refine r_iinc (pc := 43) dX6_itemsWithManyPlaces_43 rfl (by decide) ?_
  change gW _ _ _ [some (.ref l0), some (.long q15), none, some (.int (l3 + (1 : Int32)))] _ _ _ _ _ _
  refine r_goto (pc := 46) 4 dX6_itemsWithManyPlaces_46 (by decide) ?_
  cases hf
  exact gW.weak (by simp [gle]) hk
def F_X6_itemsWithManyPlaces_4 (l0 : Nat) (S : pS) : Int64 × Int32 → Option ((Int64 × Int32) ⊕ (Int64)) := fun a => (oGI S l0 6 3).bind fun x1 => if x1 ≤ a.2 then (some (.inr a.1)) else ((oGA S l0 6 2).bind fun x3 => (oAI S x3 .int a.2).bind fun x5 => (oGA S l0 6 4).bind fun x7 => (oGA S l0 6 2).bind fun x9 => (oAI S x9 .int a.2).bind fun x11 => (oAI S x7 .int x11).bind fun x13 => if x13 ≤ (1 : Int32) then (F_X6_itemsWithManyPlaces_39 l0 S a.2 a.1 x5 (0 : Int32)) else (F_X6_itemsWithManyPlaces_39 l0 S a.2 a.1 x5 (1 : Int32)))
set_option maxRecDepth 100000 in
set_option maxHeartbeats 4000000 in
theorem W_X6_itemsWithManyPlaces_4 {X : pX} {Q : pO → Nat → pF → Prop} {mc ms : Nat} (l0 : Nat) (S : pS) : ∀ (a : Int64 × Int32) (r : (Int64 × Int32) ⊕ (Int64)), F_X6_itemsWithManyPlaces_4 l0 S a = some r → Sum.elim (fun a' => gW X mX6_itemsWithManyPlaces 4 (L_X6_itemsWithManyPlaces_4 l0 S a') [] (s_X6_itemsWithManyPlaces_4 l0 S a').1 (s_X6_itemsWithManyPlaces_4 l0 S a').2 Q mc ms) (K_X6_itemsWithManyPlaces_4 X Q mc ms l0 S) r → gW X mX6_itemsWithManyPlaces 4 (L_X6_itemsWithManyPlaces_4 l0 S a) [] (s_X6_itemsWithManyPlaces_4 l0 S a).1 (s_X6_itemsWithManyPlaces_4 l0 S a).2 Q mc ms := by
  intro a r hf hk
  obtain ⟨l1, l3⟩ := a
  unfold F_X6_itemsWithManyPlaces_4 at hf
  try dsimp only at hf
  change gW _ _ _ [some (.ref l0), some (.long l1), none, some (.int l3)] _ S.1 S.2 _ _ _
  refine r_iload_n (pc := 4) dX6_itemsWithManyPlaces_4 rfl ?_
  refine r_aload_n (pc := 5) dX6_itemsWithManyPlaces_5 rfl ?_
  replace hf := obind hf
  obtain ⟨x1, e2, hf⟩ := hf
  refine q_getI (pc := 6) dX6_itemsWithManyPlaces_6 gX6_21 e2 ?_
  refine r_icmp_ge (pc := 9) 49 dX6_itemsWithManyPlaces_9 (by decide) (fun hc => ?_) (fun hc => ?_)
  · rw [if_pos hc] at hf
    cases hf
    exact gW.weak (by simp [gle]) hk
  · rw [if_neg hc] at hf
    refine r_lload_n (pc := 12) dX6_itemsWithManyPlaces_12 rfl ?_
    refine r_aload_n (pc := 13) dX6_itemsWithManyPlaces_13 rfl ?_
    replace hf := obind hf
    obtain ⟨x3, e4, hf⟩ := hf
    refine q_getA (pc := 14) dX6_itemsWithManyPlaces_14 gX6_18 e4 ?_
    refine r_iload_n (pc := 17) dX6_itemsWithManyPlaces_17 rfl ?_
    replace hf := obind hf
    obtain ⟨x5, e6, hf⟩ := hf
    refine q_iald (pc := 18) dX6_itemsWithManyPlaces_18 e6 ?_
    refine r_aload_n (pc := 19) dX6_itemsWithManyPlaces_19 rfl ?_
    replace hf := obind hf
    obtain ⟨x7, e8, hf⟩ := hf
    refine q_getA (pc := 20) dX6_itemsWithManyPlaces_20 gX6_25 e8 ?_
    refine r_aload_n (pc := 23) dX6_itemsWithManyPlaces_23 rfl ?_
    replace hf := obind hf
    obtain ⟨x9, e10, hf⟩ := hf
    refine q_getA (pc := 24) dX6_itemsWithManyPlaces_24 gX6_18 e10 ?_
    refine r_iload_n (pc := 27) dX6_itemsWithManyPlaces_27 rfl ?_
    replace hf := obind hf
    obtain ⟨x11, e12, hf⟩ := hf
    refine q_iald (pc := 28) dX6_itemsWithManyPlaces_28 e12 ?_
    replace hf := obind hf
    obtain ⟨x13, e14, hf⟩ := hf
    refine q_iald (pc := 29) dX6_itemsWithManyPlaces_29 e14 ?_
    refine r_iconst (pc := 30) (1 : Int32) dX6_itemsWithManyPlaces_30 (by decide) ?_
    refine r_icmp_le (pc := 31) 38 dX6_itemsWithManyPlaces_31 (by decide) (fun hc => ?_) (fun hc => ?_)
    · rw [if_pos hc] at hf
      refine r_iconst (pc := 38) (0 : Int32) dX6_itemsWithManyPlaces_38 (by decide) ?_
      exact gW.weak (by simp [gle]) (W_X6_itemsWithManyPlaces_39 l0 S l3 l1 x5 (0 : Int32) r hf hk)
    · rw [if_neg hc] at hf
      refine r_iconst (pc := 34) (1 : Int32) dX6_itemsWithManyPlaces_34 (by decide) ?_
      refine r_goto (pc := 35) 39 dX6_itemsWithManyPlaces_35 (by decide) ?_
      exact gW.weak (by simp [gle]) (W_X6_itemsWithManyPlaces_39 l0 S l3 l1 x5 (1 : Int32) r hf hk)
def F_X6_itemsWithManyPlaces (S : pS) (a0 : Nat) : Option (Int64) := (oF S a0 6).bind fun _ => (iter (F_X6_itemsWithManyPlaces_4 a0 S) fu ((0 : Int64), (0 : Int32))).bind fun r17 => some r17
set_option maxRecDepth 100000 in
set_option maxHeartbeats 4000000 in
theorem C_X6_itemsWithManyPlaces {X : pX} {Q : pO → Nat → pF → Prop} (S : pS) (a0 : Nat) (r : Int64) (hf : F_X6_itemsWithManyPlaces S a0 = some r) (hk : Q (.inl (some (.long r))) S.1 S.2) : gC X mX6_itemsWithManyPlaces [.ref a0] S.1 S.2 Q 0 0 := by
  refine gC_of (by decide) (Nat.le_of_ble_eq_true rfl) rfl ?_
  change gW _ _ _ [some (.ref a0), none, none, none] _ _ _ _ _ _
  unfold F_X6_itemsWithManyPlaces at hf
  obtain ⟨_, _, hf⟩ := obind hf
  refine r_lconst (pc := 0) (0 : Int64) dX6_itemsWithManyPlaces_0 (by decide) ?_
  refine r_lstore_n (pc := 1) dX6_itemsWithManyPlaces_1 (by decide) ?_
  change gW _ _ _ [some (.ref a0), some (.long (0 : Int64)), none, none] _ _ _ _ _ _
  refine r_iconst (pc := 2) (0 : Int32) dX6_itemsWithManyPlaces_2 (by decide) ?_
  refine r_istore_n (pc := 3) dX6_itemsWithManyPlaces_3 (by decide) ?_
  change gW _ _ _ [some (.ref a0), some (.long (0 : Int64)), none, some (.int (0 : Int32))] _ _ _ _ _ _
  replace hf := obind hf
  obtain ⟨r17, e18, hf⟩ := hf
  refine gW.weak (ls' := [some (.ref a0), some (.long (0 : Int64)), none, some (.int (0 : Int32))]) (by simp [gle]) ?_
  refine g_iter (L := L_X6_itemsWithManyPlaces_4 a0 S) (s := s_X6_itemsWithManyPlaces_4 a0 S) (K := K_X6_itemsWithManyPlaces_4 X Q _ _ a0 S) (W_X6_itemsWithManyPlaces_4 a0 S) fu ((0 : Int64), (0 : Int32)) _ e18 ?_
  show gW _ _ 49 [some (.ref a0), some (.long r17), none, none] [] S.1 S.2 _ _ _
  refine r_lload_n (pc := 49) dX6_itemsWithManyPlaces_49 rfl ?_
  refine r_lreturn (pc := 50) dX6_itemsWithManyPlaces_50 rfl ?_
  cases hf
  exact hk
