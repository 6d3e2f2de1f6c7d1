def F_X7_init (S : pS) (a0 : Nat) : Option (pS) := (oPA (oNew S (.inl (.char, 80, .inl (fun _ => 0)))) a0 7 0 S.1).bind fun S1 => (oPI S1 a0 7 1 (0 : Int32)).bind fun S3 => (oPI S3 a0 7 2 (0 : Int32)).bind fun S5 => some S5
set_option maxRecDepth 100000 in
set_option maxHeartbeats 4000000 in
theorem C_X7_init {X : pX} {Q : pO → Nat → pF → Prop} (S : pS) (a0 : Nat) (r : pS) (hf : F_X7_init S a0 = some r) (hk : Q (.inl none) r.1 r.2) : gC X mX7_init [.ref a0] S.1 S.2 Q 1 80 := by
  refine gC_of (by decide) (Nat.le_of_ble_eq_true rfl) rfl ?_
  change gW _ _ _ [some (.ref a0)] _ _ _ _ _ _
  unfold F_X7_init at hf
  refine r_aload_n (pc := 0) dX7_init_0 rfl ?_
  refine r_objInit (pc := 1) dX7_init_1 kX7_3 k_obj.1 k_obj.2 ⟨by decide, Nat.le_of_ble_eq_true rfl⟩ ?_
  refine r_aload_n (pc := 4) dX7_init_4 rfl ?_
  refine r_bipush (pc := 5) (80 : Int32) dX7_init_5 (by decide) ?_
  refine r_newa (pc := 7) .char .char (80, .inl (fun _ => 0)) dX7_init_7 rfl (by decide) k_arr_char (fun _ => rfl) (fun _ => rfl) (by decide) (by decide) (by decide) (mc2 := 0) (ms2 := 0) (by decide) (by decide) ?_
  change gW _ _ _ _ _ (oNew S (.inl (.char, 80, .inl (fun _ => 0)))).1 (oNew S (.inl (.char, 80, .inl (fun _ => 0)))).2 _ _ _
  replace hf := obind hf
  obtain ⟨S1, e2, hf⟩ := hf
  refine q_putAF (pc := 9) dX7_init_9 pX7_9 (Or.inr ⟨_, rfl⟩) rfl e2 ?_
  refine r_aload_n (pc := 12) dX7_init_12 rfl ?_
  refine r_iconst (pc := 13) (0 : Int32) dX7_init_13 (by decide) ?_
  replace hf := obind hf
  obtain ⟨S3, e4, hf⟩ := hf
  refine q_putI (pc := 14) dX7_init_14 pX7_15 rfl e4 ?_
  refine r_aload_n (pc := 17) dX7_init_17 rfl ?_
  refine r_iconst (pc := 18) (0 : Int32) dX7_init_18 (by decide) ?_
  replace hf := obind hf
  obtain ⟨S5, e6, hf⟩ := hf
  refine q_putI (pc := 19) dX7_init_19 pX7_19 rfl e6 ?_
  refine r_return (pc := 22) dX7_init_22 rfl ?_
  cases hf
  exact hk
def F_X7_size (S : pS) (a0 : Nat) : Option (Int32) := (oF S a0 7).bind fun _ => (oGI S a0 7 1).bind fun x1 => some x1
set_option maxRecDepth 100000 in
set_option maxHeartbeats 4000000 in
theorem C_X7_size {X : pX} {Q : pO → Nat → pF → Prop} (S : pS) (a0 : Nat) (r : Int32) (hf : F_X7_size S a0 = some r) (hk : Q (.inl (some (.int r))) S.1 S.2) : gC X mX7_size [.ref a0] S.1 S.2 Q 0 0 := by
  refine gC_of (by decide) (Nat.le_of_ble_eq_true rfl) rfl ?_
  change gW _ _ _ [some (.ref a0)] _ _ _ _ _ _
  unfold F_X7_size at hf
  obtain ⟨_, _, hf⟩ := obind hf
  refine r_aload_n (pc := 0) dX7_size_0 rfl ?_
  replace hf := obind hf
  obtain ⟨x1, e2, hf⟩ := hf
  refine q_getI (pc := 1) dX7_size_1 gX7_15 e2 ?_
  refine r_ireturn (pc := 4) .int dX7_size_4 rfl rfl ?_
  cases hf
  exact hk
def F_X7_hasRoomFor (S : pS) (a0 : Nat) (a1 : Int32) : Option (Int32) := (oF S a0 7).bind fun _ => (oGI S a0 7 1).bind fun x1 => if (80 : Int32) < (x1 + a1) then (some (0 : Int32)) else (some (1 : Int32))
set_option maxRecDepth 100000 in
set_option maxHeartbeats 4000000 in
theorem C_X7_hasRoomFor {X : pX} {Q : pO → Nat → pF → Prop} (S : pS) (a0 : Nat) (a1 : Int32) (r : Int32) (hf : F_X7_hasRoomFor S a0 a1 = some r) (hk : Q (.inl (some (.int r))) S.1 S.2) : gC X mX7_hasRoomFor [.ref a0, .int a1] S.1 S.2 Q 0 0 := by
  refine gC_of (by decide) (Nat.le_of_ble_eq_true rfl) rfl ?_
  change gW _ _ _ [some (.ref a0), some (.int a1)] _ _ _ _ _ _
  unfold F_X7_hasRoomFor at hf
  obtain ⟨_, _, hf⟩ := obind hf
  refine r_aload_n (pc := 0) dX7_hasRoomFor_0 rfl ?_
  replace hf := obind hf
  obtain ⟨x1, e2, hf⟩ := hf
  refine q_getI (pc := 1) dX7_hasRoomFor_1 gX7_15 e2 ?_
  refine r_iload_n (pc := 4) dX7_hasRoomFor_4 rfl ?_
  refine r_iadd (pc := 5) dX7_hasRoomFor_5 ?_
  refine r_bipush (pc := 6) (80 : Int32) dX7_hasRoomFor_6 (by decide) ?_
  refine r_icmp_gt (pc := 8) 15 dX7_hasRoomFor_8 (by decide) (fun hc => ?_) (fun hc => ?_)
  · rw [if_pos hc] at hf
    refine r_iconst (pc := 15) (0 : Int32) dX7_hasRoomFor_15 (by decide) ?_
    refine r_ireturn (pc := 16) .boolean dX7_hasRoomFor_16 rfl rfl ?_
    cases hf
    exact hk
  · rw [if_neg hc] at hf
    refine r_iconst (pc := 11) (1 : Int32) dX7_hasRoomFor_11 (by decide) ?_
    refine r_goto (pc := 12) 16 dX7_hasRoomFor_12 (by decide) ?_
    refine r_ireturn (pc := 16) .boolean dX7_hasRoomFor_16 rfl rfl ?_
    cases hf
    exact hk
def F_X7_put (S : pS) (a0 : Nat) (a1 : Int32) : Option (pS) := (oF S a0 7).bind fun _ => (oGI S a0 7 1).bind fun x1 => if (80 : Int32) ≤ x1 then (some S) else ((oGA S a0 7 0).bind fun x3 => (oGI S a0 7 1).bind fun x5 => (oSI S x3 .char x5 a1).bind fun S7 => (oGI S7 a0 7 1).bind fun x9 => (oPI S7 a0 7 1 (x9 + (1 : Int32))).bind fun S11 => some S11)
set_option maxRecDepth 100000 in
set_option maxHeartbeats 4000000 in
theorem C_X7_put {X : pX} {Q : pO → Nat → pF → Prop} (S : pS) (a0 : Nat) (a1 : Int32) (r : pS) (hf : F_X7_put S a0 a1 = some r) (hk : Q (.inl none) r.1 r.2) : gC X mX7_put [.ref a0, .int a1] S.1 S.2 Q 0 0 := by
  refine gC_of (by decide) (Nat.le_of_ble_eq_true rfl) rfl ?_
  change gW _ _ _ [some (.ref a0), some (.int a1)] _ _ _ _ _ _
  unfold F_X7_put at hf
  obtain ⟨_, _, hf⟩ := obind hf
  refine r_aload_n (pc := 0) dX7_put_0 rfl ?_
  replace hf := obind hf
  obtain ⟨x1, e2, hf⟩ := hf
  refine q_getI (pc := 1) dX7_put_1 gX7_15 e2 ?_
  refine r_bipush (pc := 4) (80 : Int32) dX7_put_4 (by decide) ?_
  refine r_icmp_ge (pc := 6) 29 dX7_put_6 (by decide) (fun hc => ?_) (fun hc => ?_)
  · rw [if_pos hc] at hf
    refine r_return (pc := 29) dX7_put_29 rfl ?_
    cases hf
    exact hk
  · rw [if_neg hc] at hf
    refine r_aload_n (pc := 9) dX7_put_9 rfl ?_
    replace hf := obind hf
    obtain ⟨x3, e4, hf⟩ := hf
    refine q_getA (pc := 10) dX7_put_10 gX7_9 e4 ?_
    refine r_aload_n (pc := 13) dX7_put_13 rfl ?_
    replace hf := obind hf
    obtain ⟨x5, e6, hf⟩ := hf
    refine q_getI (pc := 14) dX7_put_14 gX7_15 e6 ?_
    refine r_iload_n (pc := 17) dX7_put_17 rfl ?_
    replace hf := obind hf
    obtain ⟨S7, e8, hf⟩ := hf
    refine q_cast (pc := 18) dX7_put_18 e8 ?_
    refine r_aload_n (pc := 19) dX7_put_19 rfl ?_
    refine r_dup (pc := 20) dX7_put_20 rfl ?_
    replace hf := obind hf
    obtain ⟨x9, e10, hf⟩ := hf
    refine q_getI (pc := 21) dX7_put_21 gX7_15 e10 ?_
    refine r_iconst (pc := 24) (1 : Int32) dX7_put_24 (by decide) ?_
    refine r_iadd (pc := 25) dX7_put_25 ?_
    replace hf := obind hf
    obtain ⟨S11, e12, hf⟩ := hf
    refine q_putI (pc := 26) dX7_put_26 pX7_15 rfl e12 ?_
    refine r_return (pc := 29) dX7_put_29 rfl ?_
    cases hf
    exact hk
def F_X7_forget (S : pS) (a0 : Nat) : Option (pS) := (oF S a0 7).bind fun _ => (oPI S a0 7 1 (0 : Int32)).bind fun S1 => some S1
set_option maxRecDepth 100000 in
set_option maxHeartbeats 4000000 in
theorem C_X7_forget {X : pX} {Q : pO → Nat → pF → Prop} (S : pS) (a0 : Nat) (r : pS) (hf : F_X7_forget S a0 = some r) (hk : Q (.inl none) r.1 r.2) : gC X mX7_forget [.ref a0] S.1 S.2 Q 0 0 := by
  refine gC_of (by decide) (Nat.le_of_ble_eq_true rfl) rfl ?_
  change gW _ _ _ [some (.ref a0)] _ _ _ _ _ _
  unfold F_X7_forget at hf
  obtain ⟨_, _, hf⟩ := obind hf
  refine r_aload_n (pc := 0) dX7_forget_0 rfl ?_
  refine r_iconst (pc := 1) (0 : Int32) dX7_forget_1 (by decide) ?_
  replace hf := obind hf
  obtain ⟨S1, e2, hf⟩ := hf
  refine q_putI (pc := 2) dX7_forget_2 pX7_15 rfl e2 ?_
  refine r_return (pc := 5) dX7_forget_5 rfl ?_
  cases hf
  exact hk
def F_X8_reset (S : pS) (a0 : Nat) : Option (pS) := (oF S a0 8).bind fun _ => (oPJ S a0 8 6 (1 : Int64)).bind fun S1 => (oPJ S1 a0 8 7 (0 : Int64)).bind fun S3 => (oPJ S3 a0 8 8 (0 : Int64)).bind fun S5 => (oPI S5 a0 8 9 (0 : Int32)).bind fun S7 => (oGA S7 a0 8 0).bind fun x9 => (oSI S7 x9 .int (0 : Int32) (0 : Int32)).bind fun S11 => (oGA S11 a0 8 4).bind fun x13 => (oSI S11 x13 .int (0 : Int32) (0 : Int32)).bind fun S15 => (oGA S15 a0 8 5).bind fun x17 => (oSI S15 x17 .int (0 : Int32) (-1 : Int32)).bind fun S19 => some S19
set_option maxRecDepth 100000 in
set_option maxHeartbeats 4000000 in
theorem C_X8_reset {X : pX} {Q : pO → Nat → pF → Prop} (S : pS) (a0 : Nat) (r : pS) (hf : F_X8_reset S a0 = some r) (hk : Q (.inl none) r.1 r.2) : gC X mX8_reset [.ref a0] S.1 S.2 Q 0 0 := by
  refine gC_of (by decide) (Nat.le_of_ble_eq_true rfl) rfl ?_
  change gW _ _ _ [some (.ref a0)] _ _ _ _ _ _
  unfold F_X8_reset at hf
  obtain ⟨_, _, hf⟩ := obind hf
  refine r_aload_n (pc := 0) dX8_reset_0 rfl ?_
  refine r_lconst (pc := 1) (1 : Int64) dX8_reset_1 (by decide) ?_
  replace hf := obind hf
  obtain ⟨S1, e2, hf⟩ := hf
  refine q_putJ (pc := 2) dX8_reset_2 pX8_31 rfl e2 ?_
  refine r_aload_n (pc := 5) dX8_reset_5 rfl ?_
  refine r_lconst (pc := 6) (0 : Int64) dX8_reset_6 (by decide) ?_
  replace hf := obind hf
  obtain ⟨S3, e4, hf⟩ := hf
  refine q_putJ (pc := 7) dX8_reset_7 pX8_35 rfl e4 ?_
  refine r_aload_n (pc := 10) dX8_reset_10 rfl ?_
  refine r_lconst (pc := 11) (0 : Int64) dX8_reset_11 (by decide) ?_
  replace hf := obind hf
  obtain ⟨S5, e6, hf⟩ := hf
  refine q_putJ (pc := 12) dX8_reset_12 pX8_38 rfl e6 ?_
  refine r_aload_n (pc := 15) dX8_reset_15 rfl ?_
  refine r_iconst (pc := 16) (0 : Int32) dX8_reset_16 (by decide) ?_
  replace hf := obind hf
  obtain ⟨S7, e8, hf⟩ := hf
  refine q_putI (pc := 17) dX8_reset_17 pX8_41 rfl e8 ?_
  refine r_aload_n (pc := 20) dX8_reset_20 rfl ?_
  replace hf := obind hf
  obtain ⟨x9, e10, hf⟩ := hf
  refine q_getA (pc := 21) dX8_reset_21 gX8_9 e10 ?_
  refine r_iconst (pc := 24) (0 : Int32) dX8_reset_24 (by decide) ?_
  refine r_iconst (pc := 25) (0 : Int32) dX8_reset_25 (by decide) ?_
  replace hf := obind hf
  obtain ⟨S11, e12, hf⟩ := hf
  refine q_iast (pc := 26) dX8_reset_26 e12 ?_
  refine r_aload_n (pc := 27) dX8_reset_27 rfl ?_
  replace hf := obind hf
  obtain ⟨x13, e14, hf⟩ := hf
  refine q_getA (pc := 28) dX8_reset_28 gX8_25 e14 ?_
  refine r_iconst (pc := 31) (0 : Int32) dX8_reset_31 (by decide) ?_
  refine r_iconst (pc := 32) (0 : Int32) dX8_reset_32 (by decide) ?_
  replace hf := obind hf
  obtain ⟨S15, e16, hf⟩ := hf
  refine q_iast (pc := 33) dX8_reset_33 e16 ?_
  refine r_aload_n (pc := 34) dX8_reset_34 rfl ?_
  replace hf := obind hf
  obtain ⟨x17, e18, hf⟩ := hf
  refine q_getA (pc := 35) dX8_reset_35 gX8_28 e18 ?_
  refine r_iconst (pc := 38) (0 : Int32) dX8_reset_38 (by decide) ?_
  refine r_iconst (pc := 39) (-1 : Int32) dX8_reset_39 (by decide) ?_
  replace hf := obind hf
  obtain ⟨S19, e20, hf⟩ := hf
  refine q_iast (pc := 40) dX8_reset_40 e20 ?_
  refine r_return (pc := 41) dX8_reset_41 rfl ?_
  cases hf
  exact hk
def F_X8_copyFrom (S : pS) (a0 : Nat) (a1 : Nat) : Option (pS) := (oF S a0 8).bind fun _ => (oGA S a1 8 0).bind fun x1 => (oGA S a0 8 0).bind fun x3 => (oCpy S .int x1 (0 : Int32) x3 (0 : Int32) (61 : Int32)).bind fun S5 => (oGA S5 a1 8 1).bind fun x7 => (oGA S5 a0 8 1).bind fun x9 => (oCpy S5 .int x7 (0 : Int32) x9 (0 : Int32) (732 : Int32)).bind fun S11 => (oGA S11 a1 8 2).bind fun x13 => (oGA S11 a0 8 2).bind fun x15 => (oCpy S11 .int x13 (0 : Int32) x15 (0 : Int32) (61 : Int32)).bind fun S17 => (oGA S17 a1 8 3).bind fun x19 => (oGA S17 a0 8 3).bind fun x21 => (oCpy S17 .char x19 (0 : Int32) x21 (0 : Int32) (610 : Int32)).bind fun S23 => (oGA S23 a1 8 4).bind fun x25 => (oGA S23 a0 8 4).bind fun x27 => (oCpy S23 .int x25 (0 : Int32) x27 (0 : Int32) (61 : Int32)).bind fun S29 => (oGA S29 a1 8 5).bind fun x31 => (oGA S29 a0 8 5).bind fun x33 => (oCpy S29 .int x31 (0 : Int32) x33 (0 : Int32) (61 : Int32)).bind fun S35 => (oGJ S35 a1 8 6).bind fun x37 => (oPJ S35 a0 8 6 x37).bind fun S39 => (oGJ S39 a1 8 7).bind fun x41 => (oPJ S39 a0 8 7 x41).bind fun S43 => (oGJ S43 a1 8 8).bind fun x45 => (oPJ S43 a0 8 8 x45).bind fun S47 => (oGI S47 a1 8 9).bind fun x49 => (oPI S47 a0 8 9 x49).bind fun S51 => some S51
set_option maxRecDepth 100000 in
set_option maxHeartbeats 4000000 in
theorem C_X8_copyFrom {X : pX} {Q : pO → Nat → pF → Prop} (S : pS) (a0 : Nat) (a1 : Nat) (r : pS) (hf : F_X8_copyFrom S a0 a1 = some r) (hk : Q (.inl none) r.1 r.2) : gC X mX8_copyFrom [.ref a0, .ref a1] S.1 S.2 Q 0 0 := by
  refine gC_of (by decide) (Nat.le_of_ble_eq_true rfl) rfl ?_
  change gW _ _ _ [some (.ref a0), some (.ref a1)] _ _ _ _ _ _
  unfold F_X8_copyFrom at hf
  obtain ⟨_, _, hf⟩ := obind hf
  refine r_aload_n (pc := 0) dX8_copyFrom_0 rfl ?_
  replace hf := obind hf
  obtain ⟨x1, e2, hf⟩ := hf
  refine q_getA (pc := 1) dX8_copyFrom_1 gX8_9 e2 ?_
  refine r_iconst (pc := 4) (0 : Int32) dX8_copyFrom_4 (by decide) ?_
  refine r_aload_n (pc := 5) dX8_copyFrom_5 rfl ?_
  replace hf := obind hf
  obtain ⟨x3, e4, hf⟩ := hf
  refine q_getA (pc := 6) dX8_copyFrom_6 gX8_9 e4 ?_
  refine r_iconst (pc := 9) (0 : Int32) dX8_copyFrom_9 (by decide) ?_
  refine r_bipush (pc := 10) (61 : Int32) dX8_copyFrom_10 (by decide) ?_
  replace hf := obind hf
  obtain ⟨S5, e6, hf⟩ := hf
  refine q_copy (pc := 12) dX8_copyFrom_12 (by decide) rfl kX8_45 k_copy.1 k_copy.2.1 k_copy.2.2 e6 ⟨by decide, Nat.le_of_ble_eq_true rfl⟩ ?_
  refine r_aload_n (pc := 15) dX8_copyFrom_15 rfl ?_
  replace hf := obind hf
  obtain ⟨x7, e8, hf⟩ := hf
  refine q_getA (pc := 16) dX8_copyFrom_16 gX8_15 e8 ?_
  refine r_iconst (pc := 19) (0 : Int32) dX8_copyFrom_19 (by decide) ?_
  refine r_aload_n (pc := 20) dX8_copyFrom_20 rfl ?_
  replace hf := obind hf
  obtain ⟨x9, e10, hf⟩ := hf
  refine q_getA (pc := 21) dX8_copyFrom_21 gX8_15 e10 ?_
  refine r_iconst (pc := 24) (0 : Int32) dX8_copyFrom_24 (by decide) ?_
  refine r_sipush (pc := 25) (732 : Int32) dX8_copyFrom_25 (by decide) ?_
  replace hf := obind hf
  obtain ⟨S11, e12, hf⟩ := hf
  refine q_copy (pc := 28) dX8_copyFrom_28 (by decide) rfl kX8_45 k_copy.1 k_copy.2.1 k_copy.2.2 e12 ⟨by decide, Nat.le_of_ble_eq_true rfl⟩ ?_
  refine r_aload_n (pc := 31) dX8_copyFrom_31 rfl ?_
  replace hf := obind hf
  obtain ⟨x13, e14, hf⟩ := hf
  refine q_getA (pc := 32) dX8_copyFrom_32 gX8_18 e14 ?_
  refine r_iconst (pc := 35) (0 : Int32) dX8_copyFrom_35 (by decide) ?_
  refine r_aload_n (pc := 36) dX8_copyFrom_36 rfl ?_
  replace hf := obind hf
  obtain ⟨x15, e16, hf⟩ := hf
  refine q_getA (pc := 37) dX8_copyFrom_37 gX8_18 e16 ?_
  refine r_iconst (pc := 40) (0 : Int32) dX8_copyFrom_40 (by decide) ?_
  refine r_bipush (pc := 41) (61 : Int32) dX8_copyFrom_41 (by decide) ?_
  replace hf := obind hf
  obtain ⟨S17, e18, hf⟩ := hf
  refine q_copy (pc := 43) dX8_copyFrom_43 (by decide) rfl kX8_45 k_copy.1 k_copy.2.1 k_copy.2.2 e18 ⟨by decide, Nat.le_of_ble_eq_true rfl⟩ ?_
  refine r_aload_n (pc := 46) dX8_copyFrom_46 rfl ?_
  replace hf := obind hf
  obtain ⟨x19, e20, hf⟩ := hf
  refine q_getA (pc := 47) dX8_copyFrom_47 gX8_21 e20 ?_
  refine r_iconst (pc := 50) (0 : Int32) dX8_copyFrom_50 (by decide) ?_
  refine r_aload_n (pc := 51) dX8_copyFrom_51 rfl ?_
  replace hf := obind hf
  obtain ⟨x21, e22, hf⟩ := hf
  refine q_getA (pc := 52) dX8_copyFrom_52 gX8_21 e22 ?_
  refine r_iconst (pc := 55) (0 : Int32) dX8_copyFrom_55 (by decide) ?_
  refine r_sipush (pc := 56) (610 : Int32) dX8_copyFrom_56 (by decide) ?_
  replace hf := obind hf
  obtain ⟨S23, e24, hf⟩ := hf
  refine q_copy (pc := 59) dX8_copyFrom_59 (by decide) rfl kX8_45 k_copy.1 k_copy.2.1 k_copy.2.2 e24 ⟨by decide, Nat.le_of_ble_eq_true rfl⟩ ?_
  refine r_aload_n (pc := 62) dX8_copyFrom_62 rfl ?_
  replace hf := obind hf
  obtain ⟨x25, e26, hf⟩ := hf
  refine q_getA (pc := 63) dX8_copyFrom_63 gX8_25 e26 ?_
  refine r_iconst (pc := 66) (0 : Int32) dX8_copyFrom_66 (by decide) ?_
  refine r_aload_n (pc := 67) dX8_copyFrom_67 rfl ?_
  replace hf := obind hf
  obtain ⟨x27, e28, hf⟩ := hf
  refine q_getA (pc := 68) dX8_copyFrom_68 gX8_25 e28 ?_
  refine r_iconst (pc := 71) (0 : Int32) dX8_copyFrom_71 (by decide) ?_
  refine r_bipush (pc := 72) (61 : Int32) dX8_copyFrom_72 (by decide) ?_
  replace hf := obind hf
  obtain ⟨S29, e30, hf⟩ := hf
  refine q_copy (pc := 74) dX8_copyFrom_74 (by decide) rfl kX8_45 k_copy.1 k_copy.2.1 k_copy.2.2 e30 ⟨by decide, Nat.le_of_ble_eq_true rfl⟩ ?_
  refine r_aload_n (pc := 77) dX8_copyFrom_77 rfl ?_
  replace hf := obind hf
  obtain ⟨x31, e32, hf⟩ := hf
  refine q_getA (pc := 78) dX8_copyFrom_78 gX8_28 e32 ?_
  refine r_iconst (pc := 81) (0 : Int32) dX8_copyFrom_81 (by decide) ?_
  refine r_aload_n (pc := 82) dX8_copyFrom_82 rfl ?_
  replace hf := obind hf
  obtain ⟨x33, e34, hf⟩ := hf
  refine q_getA (pc := 83) dX8_copyFrom_83 gX8_28 e34 ?_
  refine r_iconst (pc := 86) (0 : Int32) dX8_copyFrom_86 (by decide) ?_
  refine r_bipush (pc := 87) (61 : Int32) dX8_copyFrom_87 (by decide) ?_
  replace hf := obind hf
  obtain ⟨S35, e36, hf⟩ := hf
  refine q_copy (pc := 89) dX8_copyFrom_89 (by decide) rfl kX8_45 k_copy.1 k_copy.2.1 k_copy.2.2 e36 ⟨by decide, Nat.le_of_ble_eq_true rfl⟩ ?_
  refine r_aload_n (pc := 92) dX8_copyFrom_92 rfl ?_
  refine r_aload_n (pc := 93) dX8_copyFrom_93 rfl ?_
  replace hf := obind hf
  obtain ⟨x37, e38, hf⟩ := hf
  refine q_getJ (pc := 94) dX8_copyFrom_94 gX8_31 e38 ?_
  replace hf := obind hf
  obtain ⟨S39, e40, hf⟩ := hf
  refine q_putJ (pc := 97) dX8_copyFrom_97 pX8_31 rfl e40 ?_
  refine r_aload_n (pc := 100) dX8_copyFrom_100 rfl ?_
  refine r_aload_n (pc := 101) dX8_copyFrom_101 rfl ?_
  replace hf := obind hf
  obtain ⟨x41, e42, hf⟩ := hf
  refine q_getJ (pc := 102) dX8_copyFrom_102 gX8_35 e42 ?_
  replace hf := obind hf
  obtain ⟨S43, e44, hf⟩ := hf
  refine q_putJ (pc := 105) dX8_copyFrom_105 pX8_35 rfl e44 ?_
  refine r_aload_n (pc := 108) dX8_copyFrom_108 rfl ?_
  refine r_aload_n (pc := 109) dX8_copyFrom_109 rfl ?_
  replace hf := obind hf
  obtain ⟨x45, e46, hf⟩ := hf
  refine q_getJ (pc := 110) dX8_copyFrom_110 gX8_38 e46 ?_
  replace hf := obind hf
  obtain ⟨S47, e48, hf⟩ := hf
  refine q_putJ (pc := 113) dX8_copyFrom_113 pX8_38 rfl e48 ?_
  refine r_aload_n (pc := 116) dX8_copyFrom_116 rfl ?_
  refine r_aload_n (pc := 117) dX8_copyFrom_117 rfl ?_
  replace hf := obind hf
  obtain ⟨x49, e50, hf⟩ := hf
  refine q_getI (pc := 118) dX8_copyFrom_118 gX8_41 e50 ?_
  replace hf := obind hf
  obtain ⟨S51, e52, hf⟩ := hf
  refine q_putI (pc := 121) dX8_copyFrom_121 pX8_41 rfl e52 ?_
  refine r_return (pc := 124) dX8_copyFrom_124 rfl ?_
  cases hf
  exact hk
def F_X8_foldedItems (S : pS) (a0 : Nat) : Option (Int64) := (oF S a0 8).bind fun _ => (oGJ S a0 8 8).bind fun x1 => some x1
set_option maxRecDepth 100000 in
set_option maxHeartbeats 4000000 in
theorem C_X8_foldedItems {X : pX} {Q : pO → Nat → pF → Prop} (S : pS) (a0 : Nat) (r : Int64) (hf : F_X8_foldedItems S a0 = some r) (hk : Q (.inl (some (.long r))) S.1 S.2) : gC X mX8_foldedItems [.ref a0] S.1 S.2 Q 0 0 := by
  refine gC_of (by decide) (Nat.le_of_ble_eq_true rfl) rfl ?_
  change gW _ _ _ [some (.ref a0)] _ _ _ _ _ _
  unfold F_X8_foldedItems at hf
  obtain ⟨_, _, hf⟩ := obind hf
  refine r_aload_n (pc := 0) dX8_foldedItems_0 rfl ?_
  replace hf := obind hf
  obtain ⟨x1, e2, hf⟩ := hf
  refine q_getJ (pc := 1) dX8_foldedItems_1 gX8_38 e2 ?_
  refine r_lreturn (pc := 4) dX8_foldedItems_4 rfl ?_
  cases hf
  exact hk
def F_X8_valueOf (S : pS) (a0 : Nat) (a1 : Int32) : Option (Int32) := (oF S a0 8).bind fun _ => (oGA S a0 8 4).bind fun x1 => (oAI S x1 .int a1).bind fun x3 => some x3
set_option maxRecDepth 100000 in
set_option maxHeartbeats 4000000 in
theorem C_X8_valueOf {X : pX} {Q : pO → Nat → pF → Prop} (S : pS) (a0 : Nat) (a1 : Int32) (r : Int32) (hf : F_X8_valueOf S a0 a1 = some r) (hk : Q (.inl (some (.int r))) S.1 S.2) : gC X mX8_valueOf [.ref a0, .int a1] S.1 S.2 Q 0 0 := by
  refine gC_of (by decide) (Nat.le_of_ble_eq_true rfl) rfl ?_
  change gW _ _ _ [some (.ref a0), some (.int a1)] _ _ _ _ _ _
  unfold F_X8_valueOf at hf
  obtain ⟨_, _, hf⟩ := obind hf
  refine r_aload_n (pc := 0) dX8_valueOf_0 rfl ?_
  replace hf := obind hf
  obtain ⟨x1, e2, hf⟩ := hf
  refine q_getA (pc := 1) dX8_valueOf_1 gX8_25 e2 ?_
  refine r_iload_n (pc := 4) dX8_valueOf_4 rfl ?_
  replace hf := obind hf
  obtain ⟨x3, e4, hf⟩ := hf
  refine q_iald (pc := 5) dX8_valueOf_5 e4 ?_
  refine r_ireturn (pc := 6) .int dX8_valueOf_6 rfl rfl ?_
  cases hf
  exact hk
def F_X8_dayOf (S : pS) (a0 : Nat) (a1 : Int32) : Option (Int32) := (oF S a0 8).bind fun _ => (oGA S a0 8 5).bind fun x1 => (oAI S x1 .int a1).bind fun x3 => some x3
set_option maxRecDepth 100000 in
set_option maxHeartbeats 4000000 in
theorem C_X8_dayOf {X : pX} {Q : pO → Nat → pF → Prop} (S : pS) (a0 : Nat) (a1 : Int32) (r : Int32) (hf : F_X8_dayOf S a0 a1 = some r) (hk : Q (.inl (some (.int r))) S.1 S.2) : gC X mX8_dayOf [.ref a0, .int a1] S.1 S.2 Q 0 0 := by
  refine gC_of (by decide) (Nat.le_of_ble_eq_true rfl) rfl ?_
  change gW _ _ _ [some (.ref a0), some (.int a1)] _ _ _ _ _ _
  unfold F_X8_dayOf at hf
  obtain ⟨_, _, hf⟩ := obind hf
  refine r_aload_n (pc := 0) dX8_dayOf_0 rfl ?_
  replace hf := obind hf
  obtain ⟨x1, e2, hf⟩ := hf
  refine q_getA (pc := 1) dX8_dayOf_1 gX8_28 e2 ?_
  refine r_iload_n (pc := 4) dX8_dayOf_4 rfl ?_
  replace hf := obind hf
  obtain ⟨x3, e4, hf⟩ := hf
  refine q_iald (pc := 5) dX8_dayOf_5 e4 ?_
  refine r_ireturn (pc := 6) .int dX8_dayOf_6 rfl rfl ?_
  cases hf
  exact hk
def F_X8_setFolded (S : pS) (a0 : Nat) (a1 : Int32) (a2 : Int32) : Option (pS) := (oF S a0 8).bind fun _ => (oGJ S a0 8 8).bind fun x1 => (F_X9_with S x1 a1 a2).bind fun q3 => (oPJ S a0 8 8 q3).bind fun S5 => some S5
set_option maxRecDepth 100000 in
set_option maxHeartbeats 4000000 in
theorem C_X8_setFolded {X : pX} {Q : pO → Nat → pF → Prop} (S : pS) (a0 : Nat) (a1 : Int32) (a2 : Int32) (r : pS) (hf : F_X8_setFolded S a0 a1 a2 = some r) (hk : Q (.inl none) r.1 r.2) : gC X mX8_setFolded [.ref a0, .int a1, .int a2] S.1 S.2 Q 0 0 := by
  refine gC_of (by decide) (Nat.le_of_ble_eq_true rfl) rfl ?_
  change gW _ _ _ [some (.ref a0), some (.int a1), some (.int a2)] _ _ _ _ _ _
  unfold F_X8_setFolded at hf
  obtain ⟨_, _, hf⟩ := obind hf
  refine r_aload_n (pc := 0) dX8_setFolded_0 rfl ?_
  refine r_aload_n (pc := 1) dX8_setFolded_1 rfl ?_
  replace hf := obind hf
  obtain ⟨x1, e2, hf⟩ := hf
  refine q_getJ (pc := 2) dX8_setFolded_2 gX8_38 e2 ?_
  refine r_iload_n (pc := 5) dX8_setFolded_5 rfl ?_
  refine r_iload_n (pc := 6) dX8_setFolded_6 rfl ?_
  replace hf := obind hf
  obtain ⟨q3, e4, hf⟩ := hf
  refine q_callSN (pc := 7) (v := some (.long q3)) (S' := S) mX9_with [.long x1, .int a1, .int a2] dX8_setFolded_7 kX8_61 fX9_with sX9_with ⟨by decide, by decide⟩ rfl rfl (Nat.le_of_ble_eq_true rfl) (mc1 := 0) (ms1 := 0) (mc2 := 0) (ms2 := 0) (by decide) (by decide) (C_X9_with S x1 a1 a2 q3 e4 (qR_mk _ _)) ?_
  change gW _ _ _ _ (.long q3 :: _) _ _ _ _ _
  replace hf := obind hf
  obtain ⟨S5, e6, hf⟩ := hf
  refine q_putJ (pc := 10) dX8_setFolded_10 pX8_38 rfl e6 ?_
  refine r_return (pc := 13) dX8_setFolded_13 rfl ?_
  cases hf
  exact hk
def F_X8_keepOnly (S : pS) (a0 : Nat) (a1 : Int64) : Option (Int32 × pS) := (oF S a0 8).bind fun _ => (oGJ S a0 8 6).bind fun x1 => (oGJ S a0 8 6).bind fun x3 => (oPJ S a0 8 6 (x3 &&& a1)).bind fun S5 => (F_J13_bitCount_95d88 S5 (x1 &&& (a1 ^^^ (-1 : Int64)))).bind fun q7 => some (q7, S5)
set_option maxRecDepth 100000 in
set_option maxHeartbeats 4000000 in
theorem C_X8_keepOnly {X : pX} {Q : pO → Nat → pF → Prop} (S : pS) (a0 : Nat) (a1 : Int64) (r : Int32 × pS) (hf : F_X8_keepOnly S a0 a1 = some r) (hk : Q (.inl (some (.int r.1))) r.2.1 r.2.2) : gC X mX8_keepOnly [.ref a0, .long a1] S.1 S.2 Q 0 0 := by
  refine gC_of (by decide) (Nat.le_of_ble_eq_true rfl) rfl ?_
  change gW _ _ _ [some (.ref a0), some (.long a1), none, none, none] _ _ _ _ _ _
  unfold F_X8_keepOnly at hf
  obtain ⟨_, _, hf⟩ := obind hf
  refine r_aload_n (pc := 0) dX8_keepOnly_0 rfl ?_
  replace hf := obind hf
  obtain ⟨x1, e2, hf⟩ := hf
  refine q_getJ (pc := 1) dX8_keepOnly_1 gX8_31 e2 ?_
  refine r_lload_n (pc := 4) dX8_keepOnly_4 rfl ?_
  refine r_ldc2 (pc := 5) dX8_keepOnly_5 kX8_69 ?_
  refine r_lxor (pc := 8) dX8_keepOnly_8 ?_
  refine r_land (pc := 9) dX8_keepOnly_9 ?_
  refine r_lstore_n (pc := 10) dX8_keepOnly_10 (by decide) ?_
  change gW _ _ _ [some (.ref a0), some (.long a1), none, some (.long (x1 &&& (a1 ^^^ (-1 : Int64)))), none] _ _ _ _ _ _
  refine r_aload_n (pc := 11) dX8_keepOnly_11 rfl ?_
  refine r_dup (pc := 12) dX8_keepOnly_12 rfl ?_
  replace hf := obind hf
  obtain ⟨x3, e4, hf⟩ := hf
  refine q_getJ (pc := 13) dX8_keepOnly_13 gX8_31 e4 ?_
  refine r_lload_n (pc := 16) dX8_keepOnly_16 rfl ?_
  refine r_land (pc := 17) dX8_keepOnly_17 ?_
  replace hf := obind hf
  obtain ⟨S5, e6, hf⟩ := hf
  refine q_putJ (pc := 18) dX8_keepOnly_18 pX8_31 rfl e6 ?_
  refine r_lload_n (pc := 21) dX8_keepOnly_21 rfl ?_
  replace hf := obind hf
  obtain ⟨q7, e8, hf⟩ := hf
  refine q_callS (pc := 22) (v := some (.int q7)) (S' := S5) mJ13_bitCount_95d88 [.long (x1 &&& (a1 ^^^ (-1 : Int64)))] dX8_keepOnly_22 kX8_55 fJ13_bitCount_95d88 sJ13_bitCount_95d88 ⟨by decide, by decide⟩ rfl rfl (Nat.le_of_ble_eq_true rfl) (mc1 := 0) (ms1 := 0) (mc2 := 0) (ms2 := 0) (by decide) (by decide) (C_J13_bitCount_95d88 S5 (x1 &&& (a1 ^^^ (-1 : Int64))) q7 e8 (qR_mk _ _)) ?_
  change gW _ _ _ _ (.int q7 :: _) _ _ _ _ _
  refine r_ireturn (pc := 25) .int dX8_keepOnly_25 rfl rfl ?_
  cases hf
  exact hk
abbrev L_X8_insertChild_14 (l0 : Nat) (l1 : Int32) (l2 : Int32) (l3 : Int32) (l4 : Int32) : Int32 × pS → List (Option Value) := fun a => [some (.ref l0), some (.int l1), some (.int l2), some (.int l3), some (.int l4), some (.int a.1)]
abbrev s_X8_insertChild_14 (l0 : Nat) (l1 : Int32) (l2 : Int32) (l3 : Int32) (l4 : Int32) : Int32 × pS → pS := fun a => a.2
abbrev K_X8_insertChild_14 (X : pX) (Q : pO → Nat → pF → Prop) (mc ms : Nat) (l0 : Nat) (l1 : Int32) (l2 : Int32) (l3 : Int32) (l4 : Int32) : pS → Prop := (fun b => gW X mX8_insertChild 48 [some (.ref l0), some (.int l1), some (.int l2), some (.int l3), some (.int l4), none] [] b.1 b.2 Q mc ms)
def F_X8_insertChild_14 (l0 : Nat) (l1 : Int32) (l2 : Int32) (l3 : Int32) (l4 : Int32) : Int32 × pS → Option ((Int32 × pS) ⊕ (pS)) := fun a => if a.1 ≤ l2 then (some (.inr a.2)) else ((oGA a.2 l0 8 1).bind fun x5 => (oGA a.2 l0 8 1).bind fun x7 => (oAI a.2 x7 .int ((l4 + a.1) - (1 : Int32))).bind fun x9 => (oSI a.2 x5 .int (l4 + a.1) x9).bind fun S11 => some (.inl (a.1 + (-1 : Int32), S11)))
set_option maxRecDepth 100000 in
set_option maxHeartbeats 4000000 in
theorem W_X8_insertChild_14 {X : pX} {Q : pO → Nat → pF → Prop} {mc ms : Nat} (l0 : Nat) (l1 : Int32) (l2 : Int32) (l3 : Int32) (l4 : Int32) : ∀ (a : Int32 × pS) (r : (Int32 × pS) ⊕ (pS)), F_X8_insertChild_14 l0 l1 l2 l3 l4 a = some r → Sum.elim (fun a' => gW X mX8_insertChild 14 (L_X8_insertChild_14 l0 l1 l2 l3 l4 a') [] (s_X8_insertChild_14 l0 l1 l2 l3 l4 a').1 (s_X8_insertChild_14 l0 l1 l2 l3 l4 a').2 Q mc ms) (K_X8_insertChild_14 X Q mc ms l0 l1 l2 l3 l4) r → gW X mX8_insertChild 14 (L_X8_insertChild_14 l0 l1 l2 l3 l4 a) [] (s_X8_insertChild_14 l0 l1 l2 l3 l4 a).1 (s_X8_insertChild_14 l0 l1 l2 l3 l4 a).2 Q mc ms := by
  intro a r hf hk
  obtain ⟨l5, S⟩ := a
  unfold F_X8_insertChild_14 at hf
  try dsimp only at hf
  change gW _ _ _ [some (.ref l0), some (.int l1), some (.int l2), some (.int l3), some (.int l4), some (.int l5)] _ S.1 S.2 _ _ _
  refine r_iload (pc := 14) dX8_insertChild_14 rfl ?_
  refine r_iload_n (pc := 16) dX8_insertChild_16 rfl ?_
  refine r_icmp_le (pc := 17) 48 dX8_insertChild_17 (by decide) (fun hc => ?_) (fun hc => ?_)
  · rw [if_pos hc] at hf
    cases hf
    exact gW.weak (by simp [gle]) hk
  · rw [if_neg hc] at hf
    refine r_aload_n (pc := 20) dX8_insertChild_20 rfl ?_
    replace hf := obind hf
    obtain ⟨x5, e6, hf⟩ := hf
    refine q_getA (pc := 21) dX8_insertChild_21 gX8_15 e6 ?_
    refine r_iload (pc := 24) dX8_insertChild_24 rfl ?_
    refine r_iload (pc := 26) dX8_insertChild_26 rfl ?_
    refine r_iadd (pc := 28) dX8_insertChild_28 ?_
    refine r_aload_n (pc := 29) dX8_insertChild_29 rfl ?_
    replace hf := obind hf
    obtain ⟨x7, e8, hf⟩ := hf
    refine q_getA (pc := 30) dX8_insertChild_30 gX8_15 e8 ?_
    refine r_iload (pc := 33) dX8_insertChild_33 rfl ?_
    refine r_iload (pc := 35) dX8_insertChild_35 rfl ?_
    refine r_iadd (pc := 37) dX8_insertChild_37 ?_
    refine r_iconst (pc := 38) (1 : Int32) dX8_insertChild_38 (by decide) ?_
    refine r_isub (pc := 39) dX8_insertChild_39 ?_
    replace hf := obind hf
    obtain ⟨x9, e10, hf⟩ := hf
    refine q_iald (pc := 40) dX8_insertChild_40 e10 ?_
    replace hf := obind hf
    obtain ⟨S11, e12, hf⟩ := hf
    refine q_iast (pc := 41) dX8_insertChild_41 e12 ?_
    refine r_iinc (pc := 42) dX8_insertChild_42 rfl (by decide) ?_
    change gW _ _ _ [some (.ref l0), some (.int l1), some (.int l2), some (.int l3), some (.int l4), some (.int (l5 + (-1 : Int32)))] _ _ _ _ _ _
    refine r_goto (pc := 45) 14 dX8_insertChild_45 (by decide) ?_
    cases hf
    exact gW.weak (by simp [gle]) hk
def F_X8_insertChild (S : pS) (a0 : Nat) (a1 : Int32) (a2 : Int32) (a3 : Int32) : Option (pS) := (oF S a0 8).bind fun _ => (oGA S a0 8 0).bind fun x1 => (oAI S x1 .int a1).bind fun x3 => (iter (F_X8_insertChild_14 a0 a1 a2 a3 (a1 * (12 : Int32))) fu (x3, S)).bind fun r13 => (oGA r13 a0 8 1).bind fun x15 => (oSI r13 x15 .int ((a1 * (12 : Int32)) + a2) a3).bind fun S17 => (oGA S17 a0 8 0).bind fun x19 => (oAI S17 x19 .int a1).bind fun x21 => (oSI S17 x19 .int a1 (x21 + (1 : Int32))).bind fun S23 => some S23
set_option maxRecDepth 100000 in
set_option maxHeartbeats 4000000 in
theorem C_X8_insertChild {X : pX} {Q : pO → Nat → pF → Prop} (S : pS) (a0 : Nat) (a1 : Int32) (a2 : Int32) (a3 : Int32) (r : pS) (hf : F_X8_insertChild S a0 a1 a2 a3 = some r) (hk : Q (.inl none) r.1 r.2) : gC X mX8_insertChild [.ref a0, .int a1, .int a2, .int a3] S.1 S.2 Q 0 0 := by
  refine gC_of (by decide) (Nat.le_of_ble_eq_true rfl) rfl ?_
  change gW _ _ _ [some (.ref a0), some (.int a1), some (.int a2), some (.int a3), none, none] _ _ _ _ _ _
  unfold F_X8_insertChild at hf
  obtain ⟨_, _, hf⟩ := obind hf
  refine r_iload_n (pc := 0) dX8_insertChild_0 rfl ?_
  refine r_bipush (pc := 1) (12 : Int32) dX8_insertChild_1 (by decide) ?_
  refine r_imul (pc := 3) dX8_insertChild_3 ?_
  refine r_istore (pc := 4) dX8_insertChild_4 (by decide) ?_
  change gW _ _ _ [some (.ref a0), some (.int a1), some (.int a2), some (.int a3), some (.int (a1 * (12 : Int32))), none] _ _ _ _ _ _
  refine r_aload_n (pc := 6) dX8_insertChild_6 rfl ?_
  replace hf := obind hf
  obtain ⟨x1, e2, hf⟩ := hf
  refine q_getA (pc := 7) dX8_insertChild_7 gX8_9 e2 ?_
  refine r_iload_n (pc := 10) dX8_insertChild_10 rfl ?_
  replace hf := obind hf
  obtain ⟨x3, e4, hf⟩ := hf
  refine q_iald (pc := 11) dX8_insertChild_11 e4 ?_
  refine r_istore (pc := 12) dX8_insertChild_12 (by decide) ?_
  change gW _ _ _ [some (.ref a0), some (.int a1), some (.int a2), some (.int a3), some (.int (a1 * (12 : Int32))), some (.int x3)] _ _ _ _ _ _
  replace hf := obind hf
  obtain ⟨r13, e14, hf⟩ := hf
  refine gW.weak (ls' := [some (.ref a0), some (.int a1), some (.int a2), some (.int a3), some (.int (a1 * (12 : Int32))), some (.int x3)]) (by simp [gle]) ?_
  refine g_iter (L := L_X8_insertChild_14 a0 a1 a2 a3 (a1 * (12 : Int32))) (s := s_X8_insertChild_14 a0 a1 a2 a3 (a1 * (12 : Int32))) (K := K_X8_insertChild_14 X Q _ _ a0 a1 a2 a3 (a1 * (12 : Int32))) (W_X8_insertChild_14 a0 a1 a2 a3 (a1 * (12 : Int32))) fu (x3, S) _ e14 ?_
  show gW _ _ 48 [some (.ref a0), some (.int a1), some (.int a2), some (.int a3), some (.int (a1 * (12 : Int32))), none] [] r13.1 r13.2 _ _ _
  refine r_aload_n (pc := 48) dX8_insertChild_48 rfl ?_
  replace hf := obind hf
  obtain ⟨x15, e16, hf⟩ := hf
  refine q_getA (pc := 49) dX8_insertChild_49 gX8_15 e16 ?_
  refine r_iload (pc := 52) dX8_insertChild_52 rfl ?_
  refine r_iload_n (pc := 54) dX8_insertChild_54 rfl ?_
  refine r_iadd (pc := 55) dX8_insertChild_55 ?_
  refine r_iload_n (pc := 56) dX8_insertChild_56 rfl ?_
  replace hf := obind hf
  obtain ⟨S17, e18, hf⟩ := hf
  refine q_iast (pc := 57) dX8_insertChild_57 e18 ?_
  refine r_aload_n (pc := 58) dX8_insertChild_58 rfl ?_
  replace hf := obind hf
  obtain ⟨x19, e20, hf⟩ := hf
  refine q_getA (pc := 59) dX8_insertChild_59 gX8_9 e20 ?_
  refine r_iload_n (pc := 62) dX8_insertChild_62 rfl ?_
  refine r_dup2 (pc := 63) dX8_insertChild_63 rfl rfl ?_
  replace hf := obind hf
  obtain ⟨x21, e22, hf⟩ := hf
  refine q_iald (pc := 64) dX8_insertChild_64 e22 ?_
  refine r_iconst (pc := 65) (1 : Int32) dX8_insertChild_65 (by decide) ?_
  refine r_iadd (pc := 66) dX8_insertChild_66 ?_
  replace hf := obind hf
  obtain ⟨S23, e24, hf⟩ := hf
  refine q_iast (pc := 67) dX8_insertChild_67 e24 ?_
  refine r_return (pc := 68) dX8_insertChild_68 rfl ?_
  cases hf
  exact hk
abbrev L_X8_removeChild_18 (l0 : Nat) (l1 : Int32) (l3 : Int32) : Int32 × pS → List (Option Value) := fun a => [some (.ref l0), some (.int l1), none, some (.int l3), some (.int a.1)]
abbrev s_X8_removeChild_18 (l0 : Nat) (l1 : Int32) (l3 : Int32) : Int32 × pS → pS := fun a => a.2
abbrev K_X8_removeChild_18 (X : pX) (Q : pO → Nat → pF → Prop) (mc ms : Nat) (l0 : Nat) (l1 : Int32) (l3 : Int32) : pS → Prop := (fun b => gW X mX8_removeChild 55 [some (.ref l0), some (.int l1), none, some (.int l3), none] [] b.1 b.2 Q mc ms)
def F_X8_removeChild_18 (l0 : Nat) (l1 : Int32) (l3 : Int32) : Int32 × pS → Option ((Int32 × pS) ⊕ (pS)) := fun a => (oGA a.2 l0 8 0).bind fun x7 => (oAI a.2 x7 .int l1).bind fun x9 => if x9 ≤ a.1 then (some (.inr a.2)) else ((oGA a.2 l0 8 1).bind fun x11 => (oGA a.2 l0 8 1).bind fun x13 => (oAI a.2 x13 .int ((l3 + a.1) + (1 : Int32))).bind fun x15 => (oSI a.2 x11 .int (l3 + a.1) x15).bind fun S17 => some (.inl (a.1 + (1 : Int32), S17)))
set_option maxRecDepth 100000 in
set_option maxHeartbeats 4000000 in
theorem W_X8_removeChild_18 {X : pX} {Q : pO → Nat → pF → Prop} {mc ms : Nat} (l0 : Nat) (l1 : Int32) (l3 : Int32) : ∀ (a : Int32 × pS) (r : (Int32 × pS) ⊕ (pS)), F_X8_removeChild_18 l0 l1 l3 a = some r → Sum.elim (fun a' => gW X mX8_removeChild 18 (L_X8_removeChild_18 l0 l1 l3 a') [] (s_X8_removeChild_18 l0 l1 l3 a').1 (s_X8_removeChild_18 l0 l1 l3 a').2 Q mc ms) (K_X8_removeChild_18 X Q mc ms l0 l1 l3) r → gW X mX8_removeChild 18 (L_X8_removeChild_18 l0 l1 l3 a) [] (s_X8_removeChild_18 l0 l1 l3 a).1 (s_X8_removeChild_18 l0 l1 l3 a).2 Q mc ms := by
  intro a r hf hk
  obtain ⟨l4, S⟩ := a
  unfold F_X8_removeChild_18 at hf
  try dsimp only at hf
  change gW _ _ _ [some (.ref l0), some (.int l1), none, some (.int l3), some (.int l4)] _ S.1 S.2 _ _ _
  refine r_iload (pc := 18) dX8_removeChild_18 rfl ?_
  refine r_aload_n (pc := 20) dX8_removeChild_20 rfl ?_
  replace hf := obind hf
  obtain ⟨x7, e8, hf⟩ := hf
  refine q_getA (pc := 21) dX8_removeChild_21 gX8_9 e8 ?_
  refine r_iload_n (pc := 24) dX8_removeChild_24 rfl ?_
  replace hf := obind hf
  obtain ⟨x9, e10, hf⟩ := hf
  refine q_iald (pc := 25) dX8_removeChild_25 e10 ?_
  refine r_icmp_ge (pc := 26) 55 dX8_removeChild_26 (by decide) (fun hc => ?_) (fun hc => ?_)
  · rw [if_pos hc] at hf
    cases hf
    exact gW.weak (by simp [gle]) hk
  · rw [if_neg hc] at hf
    refine r_aload_n (pc := 29) dX8_removeChild_29 rfl ?_
    replace hf := obind hf
    obtain ⟨x11, e12, hf⟩ := hf
    refine q_getA (pc := 30) dX8_removeChild_30 gX8_15 e12 ?_
    refine r_iload_n (pc := 33) dX8_removeChild_33 rfl ?_
    refine r_iload (pc := 34) dX8_removeChild_34 rfl ?_
    refine r_iadd (pc := 36) dX8_removeChild_36 ?_
    refine r_aload_n (pc := 37) dX8_removeChild_37 rfl ?_
    replace hf := obind hf
    obtain ⟨x13, e14, hf⟩ := hf
    refine q_getA (pc := 38) dX8_removeChild_38 gX8_15 e14 ?_
    refine r_iload_n (pc := 41) dX8_removeChild_41 rfl ?_
    refine r_iload (pc := 42) dX8_removeChild_42 rfl ?_
    refine r_iadd (pc := 44) dX8_removeChild_44 ?_
    refine r_iconst (pc := 45) (1 : Int32) dX8_removeChild_45 (by decide) ?_
    refine r_iadd (pc := 46) dX8_removeChild_46 ?_
    replace hf := obind hf
    obtain ⟨x15, e16, hf⟩ := hf
    refine q_iald (pc := 47) dX8_removeChild_47 e16 ?_
    replace hf := obind hf
    obtain ⟨S17, e18, hf⟩ := hf
    refine q_iast (pc := 48) dX8_removeChild_48 e18 ?_
    refine r_iinc (pc := 49) dX8_removeChild_49 rfl (by decide) ?_
    change gW _ _ _ [some (.ref l0), some (.int l1), none, some (.int l3), some (.int (l4 + (1 : Int32)))] _ _ _ _ _ _
    refine r_goto (pc := 52) 18 dX8_removeChild_52 (by decide) ?_
    cases hf
    exact gW.weak (by simp [gle]) hk
def F_X8_removeChild (S : pS) (a0 : Nat) (a1 : Int32) (a2 : Int32) : Option (pS) := (oF S a0 8).bind fun _ => (oGA S a0 8 0).bind fun x1 => (oAI S x1 .int a1).bind fun x3 => (oSI S x1 .int a1 (x3 - (1 : Int32))).bind fun S5 => (iter (F_X8_removeChild_18 a0 a1 (a1 * (12 : Int32))) fu (a2, S5)).bind fun r19 => some r19
set_option maxRecDepth 100000 in
set_option maxHeartbeats 4000000 in
theorem C_X8_removeChild {X : pX} {Q : pO → Nat → pF → Prop} (S : pS) (a0 : Nat) (a1 : Int32) (a2 : Int32) (r : pS) (hf : F_X8_removeChild S a0 a1 a2 = some r) (hk : Q (.inl none) r.1 r.2) : gC X mX8_removeChild [.ref a0, .int a1, .int a2] S.1 S.2 Q 0 0 := by
  refine gC_of (by decide) (Nat.le_of_ble_eq_true rfl) rfl ?_
  change gW _ _ _ [some (.ref a0), some (.int a1), some (.int a2), none, none] _ _ _ _ _ _
  unfold F_X8_removeChild at hf
  obtain ⟨_, _, hf⟩ := obind hf
  refine r_iload_n (pc := 0) dX8_removeChild_0 rfl ?_
  refine r_bipush (pc := 1) (12 : Int32) dX8_removeChild_1 (by decide) ?_
  refine r_imul (pc := 3) dX8_removeChild_3 ?_
  refine r_istore_n (pc := 4) dX8_removeChild_4 (by decide) ?_
  change gW _ _ _ [some (.ref a0), some (.int a1), some (.int a2), some (.int (a1 * (12 : Int32))), none] _ _ _ _ _ _
  refine r_aload_n (pc := 5) dX8_removeChild_5 rfl ?_
  replace hf := obind hf
  obtain ⟨x1, e2, hf⟩ := hf
  refine q_getA (pc := 6) dX8_removeChild_6 gX8_9 e2 ?_
  refine r_iload_n (pc := 9) dX8_removeChild_9 rfl ?_
  refine r_dup2 (pc := 10) dX8_removeChild_10 rfl rfl ?_
  replace hf := obind hf
  obtain ⟨x3, e4, hf⟩ := hf
  refine q_iald (pc := 11) dX8_removeChild_11 e4 ?_
  refine r_iconst (pc := 12) (1 : Int32) dX8_removeChild_12 (by decide) ?_
  refine r_isub (pc := 13) dX8_removeChild_13 ?_
  replace hf := obind hf
  obtain ⟨S5, e6, hf⟩ := hf
  refine q_iast (pc := 14) dX8_removeChild_14 e6 ?_
  refine r_iload_n (pc := 15) dX8_removeChild_15 rfl ?_
  refine r_istore (pc := 16) dX8_removeChild_16 (by decide) ?_
  change gW _ _ _ [some (.ref a0), some (.int a1), some (.int a2), some (.int (a1 * (12 : Int32))), some (.int a2)] _ _ _ _ _ _
  replace hf := obind hf
  obtain ⟨r19, e20, hf⟩ := hf
  refine gW.weak (ls' := [some (.ref a0), some (.int a1), none, some (.int (a1 * (12 : Int32))), some (.int a2)]) (by simp [gle]) ?_
  refine g_iter (L := L_X8_removeChild_18 a0 a1 (a1 * (12 : Int32))) (s := s_X8_removeChild_18 a0 a1 (a1 * (12 : Int32))) (K := K_X8_removeChild_18 X Q _ _ a0 a1 (a1 * (12 : Int32))) (W_X8_removeChild_18 a0 a1 (a1 * (12 : Int32))) fu (a2, S5) _ e20 ?_
  show gW _ _ 55 [some (.ref a0), some (.int a1), none, some (.int (a1 * (12 : Int32))), none] [] r19.1 r19.2 _ _ _
  refine r_return (pc := 55) dX8_removeChild_55 rfl ?_
  cases hf
  exact hk
abbrev L_X8_countParents_4 (l0 : Nat) (l1 : Int32) (S : pS) : Int32 × Int32 → List (Option Value) := fun a => [some (.ref l0), some (.int l1), some (.int a.1), some (.int a.2)]
abbrev s_X8_countParents_4 (l0 : Nat) (l1 : Int32) (S : pS) : Int32 × Int32 → pS := fun a => S
abbrev K_X8_countParents_4 (X : pX) (Q : pO → Nat → pF → Prop) (mc ms : Nat) (l0 : Nat) (l1 : Int32) (S : pS) : Int32 → Prop := (fun b => gW X mX8_countParents 41 [some (.ref l0), some (.int l1), some (.int b), none] [] S.1 S.2 Q mc ms)
def F_X8_countParents_32 (l0 : Nat) (l1 : Int32) (S : pS) (l3 : Int32) (t0 : Int32) : Option ((Int32 × Int32) ⊕ (Int32)) := some (.inl (t0 + (0 : Int32), l3 + (1 : Int32)))
set_option maxRecDepth 100000 in
set_option maxHeartbeats 4000000 in
theorem W_X8_countParents_32 {X : pX} {Q : pO → Nat → pF → Prop} {mc ms : Nat} (l0 : Nat) (l1 : Int32) (S : pS) (l3 : Int32) (t0 : Int32) (r : (Int32 × Int32) ⊕ (Int32)) (hf : F_X8_countParents_32 l0 l1 S l3 t0 = some r) (hk : Sum.elim (fun a' => gW X mX8_countParents 4 (L_X8_countParents_4 l0 l1 S a') [] (s_X8_countParents_4 l0 l1 S a').1 (s_X8_countParents_4 l0 l1 S a').2 Q mc ms) (K_X8_countParents_4 X Q mc ms l0 l1 S) r) : gW X mX8_countParents 32 [some (.ref l0), some (.int l1), none, some (.int l3)] [.int t0] S.1 S.2 Q mc ms := by
  unfold F_X8_countParents_32 at hf
  refine r_iconst (pc := 32) (0 : Int32) dX8_countParents_32 (by decide) ?_
  refine r_iadd (pc := 33) dX8_countParents_33 ?_
  refine r_istore_n (pc := 34) dX8_countParents_34 (by decide) ?_
  change gW _ _ _ [some (.ref l0), some (.int l1), some (.int (t0 + (0 : Int32))), some (.int l3)] _ _ _ _ _ _
  refine r_iinc (pc := 35) dX8_countParents_35 rfl (by decide) ?_
  change gW _ _ _ [some (.ref l0), some (.int l1), some (.int (t0 + (0 : Int32))), some (.int (l3 + (1 : Int32)))] _ _ _ _ _ _
  refine r_goto (pc := 38) 4 dX8_countParents_38 (by decide) ?_
  cases hf
  exact gW.weak (by simp [gle]) hk
def F_X8_countParents_4 (l0 : Nat) (l1 : Int32) (S : pS) : Int32 × Int32 → Option ((Int32 × Int32) ⊕ (Int32)) := fun a => if (61 : Int32) ≤ a.2 then (some (.inr a.1)) else ((F_X8_holds S l0 a.2).bind fun q1 => if q1 = 0 then (F_X8_countParents_32 l0 l1 S a.2 a.1) else ((F_X8_hasChild S l0 a.2 l1).bind fun q3 => if q3 = 0 then (F_X8_countParents_32 l0 l1 S a.2 a.1) else (some (.inl (a.1 + (1 : Int32), a.2 + (1 : Int32))))))
set_option maxRecDepth 100000 in
set_option maxHeartbeats 4000000 in
theorem W_X8_countParents_4 {X : pX} {Q : pO → Nat → pF → Prop} {mc ms : Nat} (l0 : Nat) (l1 : Int32) (S : pS) : ∀ (a : Int32 × Int32) (r : (Int32 × Int32) ⊕ (Int32)), F_X8_countParents_4 l0 l1 S a = some r → Sum.elim (fun a' => gW X mX8_countParents 4 (L_X8_countParents_4 l0 l1 S a') [] (s_X8_countParents_4 l0 l1 S a').1 (s_X8_countParents_4 l0 l1 S a').2 Q mc ms) (K_X8_countParents_4 X Q mc ms l0 l1 S) r → gW X mX8_countParents 4 (L_X8_countParents_4 l0 l1 S a) [] (s_X8_countParents_4 l0 l1 S a).1 (s_X8_countParents_4 l0 l1 S a).2 Q mc ms := by
  intro a r hf hk
  obtain ⟨l2, l3⟩ := a
  unfold F_X8_countParents_4 at hf
  try dsimp only at hf
  change gW _ _ _ [some (.ref l0), some (.int l1), some (.int l2), some (.int l3)] _ S.1 S.2 _ _ _
  refine r_iload_n (pc := 4) dX8_countParents_4 rfl ?_
  refine r_bipush (pc := 5) (61 : Int32) dX8_countParents_5 (by decide) ?_
  refine r_icmp_ge (pc := 7) 41 dX8_countParents_7 (by decide) (fun hc => ?_) (fun hc => ?_)
  · rw [if_pos hc] at hf
    cases hf
    exact gW.weak (by simp [gle]) hk
  · rw [if_neg hc] at hf
    refine r_iload_n (pc := 10) dX8_countParents_10 rfl ?_
    refine r_aload_n (pc := 11) dX8_countParents_11 rfl ?_
    refine r_iload_n (pc := 12) dX8_countParents_12 rfl ?_
    replace hf := obind hf
    obtain ⟨q1, e2, hf⟩ := hf
    refine q_callV (pc := 13) (v := some (.int q1)) (S' := S) mX8_holds 8 [.int l3] dX8_countParents_13 kX8_75 fX8_holds iX8_holds ⟨by decide, by decide⟩ rfl rfl rfl (Nat.le_of_ble_eq_true rfl) (og e2) (mc1 := 0) (ms1 := 0) (mc2 := mc) (ms2 := ms) (by omega) (by omega) (C_X8_holds S l0 l3 q1 e2 (qR_mk _ _)) ?_
    change gW _ _ _ _ (.int q1 :: _) _ _ _ _ _
    refine r_if_eq (pc := 16) 32 dX8_countParents_16 (by decide) (fun hc => ?_) (fun hc => ?_)
    · rw [if_pos hc] at hf
      exact gW.weak (by simp [gle]) (W_X8_countParents_32 l0 l1 S l3 l2 r hf hk)
    · rw [if_neg hc] at hf
      refine r_aload_n (pc := 19) dX8_countParents_19 rfl ?_
      refine r_iload_n (pc := 20) dX8_countParents_20 rfl ?_
      refine r_iload_n (pc := 21) dX8_countParents_21 rfl ?_
      replace hf := obind hf
      obtain ⟨q3, e4, hf⟩ := hf
      refine q_callV (pc := 22) (v := some (.int q3)) (S' := S) mX8_hasChild 8 [.int l3, .int l1] dX8_countParents_22 kX8_79 fX8_hasChild iX8_hasChild ⟨by decide, by decide⟩ rfl rfl rfl (Nat.le_of_ble_eq_true rfl) (og e4) (mc1 := 0) (ms1 := 0) (mc2 := mc) (ms2 := ms) (by omega) (by omega) (C_X8_hasChild S l0 l3 l1 q3 e4 (qR_mk _ _)) ?_
      change gW _ _ _ _ (.int q3 :: _) _ _ _ _ _
      refine r_if_eq (pc := 25) 32 dX8_countParents_25 (by decide) (fun hc => ?_) (fun hc => ?_)
      · rw [if_pos hc] at hf
        exact gW.weak (by simp [gle]) (W_X8_countParents_32 l0 l1 S l3 l2 r hf hk)
      · rw [if_neg hc] at hf
        refine r_iconst (pc := 28) (1 : Int32) dX8_countParents_28 (by decide) ?_
        refine r_goto (pc := 29) 33 dX8_countParents_29 (by decide) ?_
        refine r_iadd (pc := 33) dX8_countParents_33 ?_
        refine r_istore_n (pc := 34) dX8_countParents_34 (by decide) ?_
        change gW _ _ _ [some (.ref l0), some (.int l1), some (.int (l2 + (1 : Int32))), some (.int l3)] _ _ _ _ _ _
        refine r_iinc (pc := 35) dX8_countParents_35 rfl (by decide) ?_
        change gW _ _ _ [some (.ref l0), some (.int l1), some (.int (l2 + (1 : Int32))), some (.int (l3 + (1 : Int32)))] _ _ _ _ _ _
        refine r_goto (pc := 38) 4 dX8_countParents_38 (by decide) ?_
        cases hf
        exact gW.weak (by simp [gle]) hk
def F_X8_countParents (S : pS) (a0 : Nat) (a1 : Int32) : Option (Int32) := (oF S a0 8).bind fun _ => (iter (F_X8_countParents_4 a0 a1 S) fu ((0 : Int32), (0 : Int32))).bind fun r5 => some r5
set_option maxRecDepth 100000 in
set_option maxHeartbeats 4000000 in
theorem C_X8_countParents {X : pX} {Q : pO → Nat → pF → Prop} (S : pS) (a0 : Nat) (a1 : Int32) (r : Int32) (hf : F_X8_countParents S a0 a1 = some r) (hk : Q (.inl (some (.int r))) S.1 S.2) : gC X mX8_countParents [.ref a0, .int a1] S.1 S.2 Q 0 0 := by
  refine gC_of (by decide) (Nat.le_of_ble_eq_true rfl) rfl ?_
  change gW _ _ _ [some (.ref a0), some (.int a1), none, none] _ _ _ _ _ _
  unfold F_X8_countParents at hf
  obtain ⟨_, _, hf⟩ := obind hf
  refine r_iconst (pc := 0) (0 : Int32) dX8_countParents_0 (by decide) ?_
  refine r_istore_n (pc := 1) dX8_countParents_1 (by decide) ?_
  change gW _ _ _ [some (.ref a0), some (.int a1), some (.int (0 : Int32)), none] _ _ _ _ _ _
  refine r_iconst (pc := 2) (0 : Int32) dX8_countParents_2 (by decide) ?_
  refine r_istore_n (pc := 3) dX8_countParents_3 (by decide) ?_
  change gW _ _ _ [some (.ref a0), some (.int a1), some (.int (0 : Int32)), some (.int (0 : Int32))] _ _ _ _ _ _
  replace hf := obind hf
  obtain ⟨r5, e6, hf⟩ := hf
  refine gW.weak (ls' := [some (.ref a0), some (.int a1), some (.int (0 : Int32)), some (.int (0 : Int32))]) (by simp [gle]) ?_
  refine g_iter (L := L_X8_countParents_4 a0 a1 S) (s := s_X8_countParents_4 a0 a1 S) (K := K_X8_countParents_4 X Q _ _ a0 a1 S) (W_X8_countParents_4 a0 a1 S) fu ((0 : Int32), (0 : Int32)) _ e6 ?_
  show gW _ _ 41 [some (.ref a0), some (.int a1), some (.int r5), none] [] S.1 S.2 _ _ _
  refine r_iload_n (pc := 41) dX8_countParents_41 rfl ?_
  refine r_ireturn (pc := 42) .int dX8_countParents_42 rfl rfl ?_
  cases hf
  exact hk
abbrev L_X8_parentAt_5 (l0 : Nat) (l1 : Int32) (l2 : Int32) (S : pS) : Int32 × Int32 → List (Option Value) := fun a => [some (.ref l0), some (.int l1), some (.int l2), some (.int a.1), some (.int a.2)]
abbrev s_X8_parentAt_5 (l0 : Nat) (l1 : Int32) (l2 : Int32) (S : pS) : Int32 × Int32 → pS := fun a => S
abbrev K_X8_parentAt_5 (X : pX) (Q : pO → Nat → pF → Prop) (mc ms : Nat) (l0 : Nat) (l1 : Int32) (l2 : Int32) (S : pS) : (Int32) ⊕ (Unit) → Prop := (Sum.elim (fun b => gW X mX8_parentAt 36 [some (.ref l0), some (.int l1), some (.int l2), none, some (.int b)] [] S.1 S.2 Q mc ms) (fun b => gW X mX8_parentAt 48 [some (.ref l0), some (.int l1), some (.int l2), none, none] [] S.1 S.2 Q mc ms))
def F_X8_parentAt_5 (l0 : Nat) (l1 : Int32) (l2 : Int32) (S : pS) : Int32 × Int32 → Option ((Int32 × Int32) ⊕ ((Int32) ⊕ (Unit))) := fun a => if (61 : Int32) ≤ a.2 then (some (.inr (.inr ()))) else ((F_X8_holds S l0 a.2).bind fun q1 => if q1 = 0 then (some (.inl (a.1, a.2 + (1 : Int32)))) else ((F_X8_hasChild S l0 a.2 l1).bind fun q3 => if q3 = 0 then (some (.inl (a.1, a.2 + (1 : Int32)))) else (if ¬ a.1 = l2 then (some (.inl (a.1 + (1 : Int32), a.2 + (1 : Int32)))) else (some (.inr (.inl a.2))))))
set_option maxRecDepth 100000 in
set_option maxHeartbeats 4000000 in
theorem W_X8_parentAt_5 {X : pX} {Q : pO → Nat → pF → Prop} {mc ms : Nat} (l0 : Nat) (l1 : Int32) (l2 : Int32) (S : pS) : ∀ (a : Int32 × Int32) (r : (Int32 × Int32) ⊕ ((Int32) ⊕ (Unit))), F_X8_parentAt_5 l0 l1 l2 S a = some r → Sum.elim (fun a' => gW X mX8_parentAt 5 (L_X8_parentAt_5 l0 l1 l2 S a') [] (s_X8_parentAt_5 l0 l1 l2 S a').1 (s_X8_parentAt_5 l0 l1 l2 S a').2 Q mc ms) (K_X8_parentAt_5 X Q mc ms l0 l1 l2 S) r → gW X mX8_parentAt 5 (L_X8_parentAt_5 l0 l1 l2 S a) [] (s_X8_parentAt_5 l0 l1 l2 S a).1 (s_X8_parentAt_5 l0 l1 l2 S a).2 Q mc ms := by
  intro a r hf hk
  obtain ⟨l3, l4⟩ := a
  unfold F_X8_parentAt_5 at hf
  try dsimp only at hf
  change gW _ _ _ [some (.ref l0), some (.int l1), some (.int l2), some (.int l3), some (.int l4)] _ S.1 S.2 _ _ _
  refine r_iload (pc := 5) dX8_parentAt_5 rfl ?_
  refine r_bipush (pc := 7) (61 : Int32) dX8_parentAt_7 (by decide) ?_
  refine r_icmp_ge (pc := 9) 48 dX8_parentAt_9 (by decide) (fun hc => ?_) (fun hc => ?_)
  · rw [if_pos hc] at hf
    cases hf
    exact gW.weak (by simp [gle]) hk
  · rw [if_neg hc] at hf
    refine r_aload_n (pc := 12) dX8_parentAt_12 rfl ?_
    refine r_iload (pc := 13) dX8_parentAt_13 rfl ?_
    replace hf := obind hf
    obtain ⟨q1, e2, hf⟩ := hf
    refine q_callV (pc := 15) (v := some (.int q1)) (S' := S) mX8_holds 8 [.int l4] dX8_parentAt_15 kX8_75 fX8_holds iX8_holds ⟨by decide, by decide⟩ rfl rfl rfl (Nat.le_of_ble_eq_true rfl) (og e2) (mc1 := 0) (ms1 := 0) (mc2 := mc) (ms2 := ms) (by omega) (by omega) (C_X8_holds S l0 l4 q1 e2 (qR_mk _ _)) ?_
    change gW _ _ _ _ (.int q1 :: _) _ _ _ _ _
    refine r_if_eq (pc := 18) 42 dX8_parentAt_18 (by decide) (fun hc => ?_) (fun hc => ?_)
    · rw [if_pos hc] at hf
      refine r_iinc (pc := 42) dX8_parentAt_42 rfl (by decide) ?_
      change gW _ _ _ [some (.ref l0), some (.int l1), some (.int l2), some (.int l3), some (.int (l4 + (1 : Int32)))] _ _ _ _ _ _
      refine r_goto (pc := 45) 5 dX8_parentAt_45 (by decide) ?_
      cases hf
      exact gW.weak (by simp [gle]) hk
    · rw [if_neg hc] at hf
      refine r_aload_n (pc := 21) dX8_parentAt_21 rfl ?_
      refine r_iload (pc := 22) dX8_parentAt_22 rfl ?_
      refine r_iload_n (pc := 24) dX8_parentAt_24 rfl ?_
      replace hf := obind hf
      obtain ⟨q3, e4, hf⟩ := hf
      refine q_callV (pc := 25) (v := some (.int q3)) (S' := S) mX8_hasChild 8 [.int l4, .int l1] dX8_parentAt_25 kX8_79 fX8_hasChild iX8_hasChild ⟨by decide, by decide⟩ rfl rfl rfl (Nat.le_of_ble_eq_true rfl) (og e4) (mc1 := 0) (ms1 := 0) (mc2 := mc) (ms2 := ms) (by omega) (by omega) (C_X8_hasChild S l0 l4 l1 q3 e4 (qR_mk _ _)) ?_
      change gW _ _ _ _ (.int q3 :: _) _ _ _ _ _
      refine r_if_eq (pc := 28) 42 dX8_parentAt_28 (by decide) (fun hc => ?_) (fun hc => ?_)
      · rw [if_pos hc] at hf
        refine r_iinc (pc := 42) dX8_parentAt_42 rfl (by decide) ?_
        change gW _ _ _ [some (.ref l0), some (.int l1), some (.int l2), some (.int l3), some (.int (l4 + (1 : Int32)))] _ _ _ _ _ _
        refine r_goto (pc := 45) 5 dX8_parentAt_45 (by decide) ?_
        cases hf
        exact gW.weak (by simp [gle]) hk
      · rw [if_neg hc] at hf
        refine r_iload_n (pc := 31) dX8_parentAt_31 rfl ?_
        refine r_iload_n (pc := 32) dX8_parentAt_32 rfl ?_
        refine r_icmp_ne (pc := 33) 39 dX8_parentAt_33 (by decide) (fun hc => ?_) (fun hc => ?_)
        · rw [if_pos hc] at hf
          refine r_iinc (pc := 39) dX8_parentAt_39 rfl (by decide) ?_
          change gW _ _ _ [some (.ref l0), some (.int l1), some (.int l2), some (.int (l3 + (1 : Int32))), some (.int l4)] _ _ _ _ _ _
          refine r_iinc (pc := 42) dX8_parentAt_42 rfl (by decide) ?_
          change gW _ _ _ [some (.ref l0), some (.int l1), some (.int l2), some (.int (l3 + (1 : Int32))), some (.int (l4 + (1 : Int32)))] _ _ _ _ _ _
          refine r_goto (pc := 45) 5 dX8_parentAt_45 (by decide) ?_
          cases hf
          exact gW.weak (by simp [gle]) hk
        · rw [if_neg hc] at hf
          cases hf
          exact gW.weak (by simp [gle]) hk
def F_X8_parentAt (S : pS) (a0 : Nat) (a1 : Int32) (a2 : Int32) : Option (Int32) := (oF S a0 8).bind fun _ => (iter (F_X8_parentAt_5 a0 a1 a2 S) fu ((0 : Int32), (0 : Int32))).bind fun r5 => Sum.elim (fun q7 => some q7) (fun q7 => some (-1000000 : Int32)) r5
set_option maxRecDepth 100000 in
set_option maxHeartbeats 4000000 in
theorem C_X8_parentAt {X : pX} {Q : pO → Nat → pF → Prop} (S : pS) (a0 : Nat) (a1 : Int32) (a2 : Int32) (r : Int32) (hf : F_X8_parentAt S a0 a1 a2 = some r) (hk : Q (.inl (some (.int r))) S.1 S.2) : gC X mX8_parentAt [.ref a0, .int a1, .int a2] S.1 S.2 Q 0 0 := by
  refine gC_of (by decide) (Nat.le_of_ble_eq_true rfl) rfl ?_
  change gW _ _ _ [some (.ref a0), some (.int a1), some (.int a2), none, none] _ _ _ _ _ _
  unfold F_X8_parentAt at hf
  obtain ⟨_, _, hf⟩ := obind hf
  refine r_iconst (pc := 0) (0 : Int32) dX8_parentAt_0 (by decide) ?_
  refine r_istore_n (pc := 1) dX8_parentAt_1 (by decide) ?_
  change gW _ _ _ [some (.ref a0), some (.int a1), some (.int a2), some (.int (0 : Int32)), none] _ _ _ _ _ _
  refine r_iconst (pc := 2) (0 : Int32) dX8_parentAt_2 (by decide) ?_
  refine r_istore (pc := 3) dX8_parentAt_3 (by decide) ?_
  change gW _ _ _ [some (.ref a0), some (.int a1), some (.int a2), some (.int (0 : Int32)), some (.int (0 : Int32))] _ _ _ _ _ _
  replace hf := obind hf
  obtain ⟨r5, e6, hf⟩ := hf
  refine gW.weak (ls' := [some (.ref a0), some (.int a1), some (.int a2), some (.int (0 : Int32)), some (.int (0 : Int32))]) (by simp [gle]) ?_
  refine g_iter (L := L_X8_parentAt_5 a0 a1 a2 S) (s := s_X8_parentAt_5 a0 a1 a2 S) (K := K_X8_parentAt_5 X Q _ _ a0 a1 a2 S) (W_X8_parentAt_5 a0 a1 a2 S) fu ((0 : Int32), (0 : Int32)) _ e6 ?_
  rcases r5 with q7 | q7
  · simp only [Sum.elim_inl, Sum.elim_inr] at hf
    show gW _ _ 36 [some (.ref a0), some (.int a1), some (.int a2), none, some (.int q7)] [] S.1 S.2 _ _ _
    refine r_iload (pc := 36) dX8_parentAt_36 rfl ?_
    refine r_ireturn (pc := 38) .int dX8_parentAt_38 rfl rfl ?_
    cases hf
    exact hk
  · simp only [Sum.elim_inl, Sum.elim_inr] at hf
    show gW _ _ 48 [some (.ref a0), some (.int a1), some (.int a2), none, none] [] S.1 S.2 _ _ _
    refine r_ldc (pc := 48) dX8_parentAt_48 kX8_83 ?_
    refine r_ireturn (pc := 50) .int dX8_parentAt_50 rfl rfl ?_
    cases hf
    exact hk
abbrev L_X8_earliestDay_5 (l0 : Nat) (l1 : Int64) (S : pS) : Int32 × Int32 → List (Option Value) := fun a => [some (.ref l0), some (.long l1), none, some (.int a.1), some (.int a.2), none]
abbrev s_X8_earliestDay_5 (l0 : Nat) (l1 : Int64) (S : pS) : Int32 × Int32 → pS := fun a => S
abbrev K_X8_earliestDay_5 (X : pX) (Q : pO → Nat → pF → Prop) (mc ms : Nat) (l0 : Nat) (l1 : Int64) (S : pS) : Int32 → Prop := (fun b => gW X mX8_earliestDay 56 [some (.ref l0), some (.long l1), none, some (.int b), none, none] [] S.1 S.2 Q mc ms)
def F_X8_earliestDay_5 (l0 : Nat) (l1 : Int64) (S : pS) : Int32 × Int32 → Option ((Int32 × Int32) ⊕ (Int32)) := fun a => if (61 : Int32) ≤ a.2 then (some (.inr a.1)) else ((oGA S l0 8 5).bind fun x1 => (oAI S x1 .int a.2).bind fun x3 => (F_X9_contains S l1 a.2).bind fun q5 => if q5 = 0 then (some (.inl (a.1, a.2 + (1 : Int32)))) else (if x3 = (-1 : Int32) then (some (.inl (a.1, a.2 + (1 : Int32)))) else (if a.1 = (-1 : Int32) then (some (.inl (x3, a.2 + (1 : Int32)))) else (if a.1 ≤ x3 then (some (.inl (a.1, a.2 + (1 : Int32)))) else (some (.inl (x3, a.2 + (1 : Int32))))))))
set_option maxRecDepth 100000 in
set_option maxHeartbeats 4000000 in
theorem W_X8_earliestDay_5 {X : pX} {Q : pO → Nat → pF → Prop} {mc ms : Nat} (l0 : Nat) (l1 : Int64) (S : pS) : ∀ (a : Int32 × Int32) (r : (Int32 × Int32) ⊕ (Int32)), F_X8_earliestDay_5 l0 l1 S a = some r → Sum.elim (fun a' => gW X mX8_earliestDay 5 (L_X8_earliestDay_5 l0 l1 S a') [] (s_X8_earliestDay_5 l0 l1 S a').1 (s_X8_earliestDay_5 l0 l1 S a').2 Q mc ms) (K_X8_earliestDay_5 X Q mc ms l0 l1 S) r → gW X mX8_earliestDay 5 (L_X8_earliestDay_5 l0 l1 S a) [] (s_X8_earliestDay_5 l0 l1 S a).1 (s_X8_earliestDay_5 l0 l1 S a).2 Q mc ms := by
  intro a r hf hk
  obtain ⟨l3, l4⟩ := a
  unfold F_X8_earliestDay_5 at hf
  try dsimp only at hf
  change gW _ _ _ [some (.ref l0), some (.long l1), none, some (.int l3), some (.int l4), none] _ S.1 S.2 _ _ _
  refine r_iload (pc := 5) dX8_earliestDay_5 rfl ?_
  refine r_bipush (pc := 7) (61 : Int32) dX8_earliestDay_7 (by decide) ?_
  refine r_icmp_ge (pc := 9) 56 dX8_earliestDay_9 (by decide) (fun hc => ?_) (fun hc => ?_)
  · rw [if_pos hc] at hf
    cases hf
    exact gW.weak (by simp [gle]) hk
  · rw [if_neg hc] at hf
    refine r_aload_n (pc := 12) dX8_earliestDay_12 rfl ?_
    replace hf := obind hf
    obtain ⟨x1, e2, hf⟩ := hf
    refine q_getA (pc := 13) dX8_earliestDay_13 gX8_28 e2 ?_
    refine r_iload (pc := 16) dX8_earliestDay_16 rfl ?_
    replace hf := obind hf
    obtain ⟨x3, e4, hf⟩ := hf
    refine q_iald (pc := 18) dX8_earliestDay_18 e4 ?_
    refine r_istore (pc := 19) dX8_earliestDay_19 (by decide) ?_
    change gW _ _ _ [some (.ref l0), some (.long l1), none, some (.int l3), some (.int l4), some (.int x3)] _ _ _ _ _ _
    refine r_lload_n (pc := 21) dX8_earliestDay_21 rfl ?_
    refine r_iload (pc := 22) dX8_earliestDay_22 rfl ?_
    replace hf := obind hf
    obtain ⟨q5, e6, hf⟩ := hf
    refine q_callSN (pc := 24) (v := some (.int q5)) (S' := S) mX9_contains [.long l1, .int l4] dX8_earliestDay_24 kX8_51 fX9_contains sX9_contains ⟨by decide, by decide⟩ rfl rfl (Nat.le_of_ble_eq_true rfl) (mc1 := 0) (ms1 := 0) (mc2 := mc) (ms2 := ms) (by omega) (by omega) (C_X9_contains S l1 l4 q5 e6 (qR_mk _ _)) ?_
    change gW _ _ _ _ (.int q5 :: _) _ _ _ _ _
    refine r_if_eq (pc := 27) 50 dX8_earliestDay_27 (by decide) (fun hc => ?_) (fun hc => ?_)
    · rw [if_pos hc] at hf
      refine r_iinc (pc := 50) dX8_earliestDay_50 rfl (by decide) ?_
      change gW _ _ _ [some (.ref l0), some (.long l1), none, some (.int l3), some (.int (l4 + (1 : Int32))), some (.int x3)] _ _ _ _ _ _
      refine r_goto (pc := 53) 5 dX8_earliestDay_53 (by decide) ?_
      cases hf
      exact gW.weak (by simp [gle]) hk
    · rw [if_neg hc] at hf
      refine r_iload (pc := 30) dX8_earliestDay_30 rfl ?_
      refine r_iconst (pc := 32) (-1 : Int32) dX8_earliestDay_32 (by decide) ?_
      refine r_icmp_eq (pc := 33) 50 dX8_earliestDay_33 (by decide) (fun hc => ?_) (fun hc => ?_)
      · rw [if_pos hc] at hf
        refine r_iinc (pc := 50) dX8_earliestDay_50 rfl (by decide) ?_
        change gW _ _ _ [some (.ref l0), some (.long l1), none, some (.int l3), some (.int (l4 + (1 : Int32))), some (.int x3)] _ _ _ _ _ _
        refine r_goto (pc := 53) 5 dX8_earliestDay_53 (by decide) ?_
        cases hf
        exact gW.weak (by simp [gle]) hk
      · rw [if_neg hc] at hf
        refine r_iload_n (pc := 36) dX8_earliestDay_36 rfl ?_
        refine r_iconst (pc := 37) (-1 : Int32) dX8_earliestDay_37 (by decide) ?_
        refine r_icmp_eq (pc := 38) 47 dX8_earliestDay_38 (by decide) (fun hc => ?_) (fun hc => ?_)
        · rw [if_pos hc] at hf
          refine r_iload (pc := 47) dX8_earliestDay_47 rfl ?_
          refine r_istore_n (pc := 49) dX8_earliestDay_49 (by decide) ?_
          change gW _ _ _ [some (.ref l0), some (.long l1), none, some (.int x3), some (.int l4), some (.int x3)] _ _ _ _ _ _
          refine r_iinc (pc := 50) dX8_earliestDay_50 rfl (by decide) ?_
          change gW _ _ _ [some (.ref l0), some (.long l1), none, some (.int x3), some (.int (l4 + (1 : Int32))), some (.int x3)] _ _ _ _ _ _
          refine r_goto (pc := 53) 5 dX8_earliestDay_53 (by decide) ?_
          cases hf
          exact gW.weak (by simp [gle]) hk
        · rw [if_neg hc] at hf
          refine r_iload (pc := 41) dX8_earliestDay_41 rfl ?_
          refine r_iload_n (pc := 43) dX8_earliestDay_43 rfl ?_
          refine r_icmp_ge (pc := 44) 50 dX8_earliestDay_44 (by decide) (fun hc => ?_) (fun hc => ?_)
          · rw [if_pos hc] at hf
            refine r_iinc (pc := 50) dX8_earliestDay_50 rfl (by decide) ?_
            change gW _ _ _ [some (.ref l0), some (.long l1), none, some (.int l3), some (.int (l4 + (1 : Int32))), some (.int x3)] _ _ _ _ _ _
            refine r_goto (pc := 53) 5 dX8_earliestDay_53 (by decide) ?_
            cases hf
            exact gW.weak (by simp [gle]) hk
          · rw [if_neg hc] at hf
            refine r_iload (pc := 47) dX8_earliestDay_47 rfl ?_
            refine r_istore_n (pc := 49) dX8_earliestDay_49 (by decide) ?_
            change gW _ _ _ [some (.ref l0), some (.long l1), none, some (.int x3), some (.int l4), some (.int x3)] _ _ _ _ _ _
            refine r_iinc (pc := 50) dX8_earliestDay_50 rfl (by decide) ?_
            change gW _ _ _ [some (.ref l0), some (.long l1), none, some (.int x3), some (.int (l4 + (1 : Int32))), some (.int x3)] _ _ _ _ _ _
            refine r_goto (pc := 53) 5 dX8_earliestDay_53 (by decide) ?_
            cases hf
            exact gW.weak (by simp [gle]) hk
def F_X8_earliestDay (S : pS) (a0 : Nat) (a1 : Int64) : Option (Int32) := (oF S a0 8).bind fun _ => (iter (F_X8_earliestDay_5 a0 a1 S) fu ((-1 : Int32), (0 : Int32))).bind fun r7 => some r7
set_option maxRecDepth 100000 in
set_option maxHeartbeats 4000000 in
theorem C_X8_earliestDay {X : pX} {Q : pO → Nat → pF → Prop} (S : pS) (a0 : Nat) (a1 : Int64) (r : Int32) (hf : F_X8_earliestDay S a0 a1 = some r) (hk : Q (.inl (some (.int r))) S.1 S.2) : gC X mX8_earliestDay [.ref a0, .long a1] S.1 S.2 Q 0 0 := by
  refine gC_of (by decide) (Nat.le_of_ble_eq_true rfl) rfl ?_
  change gW _ _ _ [some (.ref a0), some (.long a1), none, none, none, none] _ _ _ _ _ _
  unfold F_X8_earliestDay at hf
  obtain ⟨_, _, hf⟩ := obind hf
  refine r_iconst (pc := 0) (-1 : Int32) dX8_earliestDay_0 (by decide) ?_
  refine r_istore_n (pc := 1) dX8_earliestDay_1 (by decide) ?_
  change gW _ _ _ [some (.ref a0), some (.long a1), none, some (.int (-1 : Int32)), none, none] _ _ _ _ _ _
  refine r_iconst (pc := 2) (0 : Int32) dX8_earliestDay_2 (by decide) ?_
  refine r_istore (pc := 3) dX8_earliestDay_3 (by decide) ?_
  change gW _ _ _ [some (.ref a0), some (.long a1), none, some (.int (-1 : Int32)), some (.int (0 : Int32)), none] _ _ _ _ _ _
  replace hf := obind hf
  obtain ⟨r7, e8, hf⟩ := hf
  refine gW.weak (ls' := [some (.ref a0), some (.long a1), none, some (.int (-1 : Int32)), some (.int (0 : Int32)), none]) (by simp [gle]) ?_
  refine g_iter (L := L_X8_earliestDay_5 a0 a1 S) (s := s_X8_earliestDay_5 a0 a1 S) (K := K_X8_earliestDay_5 X Q _ _ a0 a1 S) (W_X8_earliestDay_5 a0 a1 S) fu ((-1 : Int32), (0 : Int32)) _ e8 ?_
  show gW _ _ 56 [some (.ref a0), some (.long a1), none, some (.int r7), none, none] [] S.1 S.2 _ _ _
  refine r_iload_n (pc := 56) dX8_earliestDay_56 rfl ?_
  refine r_ireturn (pc := 57) .int dX8_earliestDay_57 rfl rfl ?_
  cases hf
  exact hk
abbrev L_X8_latestDay_5 (l0 : Nat) (l1 : Int64) (S : pS) : Int32 × Int32 → List (Option Value) := fun a => [some (.ref l0), some (.long l1), none, some (.int a.1), some (.int a.2)]
abbrev s_X8_latestDay_5 (l0 : Nat) (l1 : Int64) (S : pS) : Int32 × Int32 → pS := fun a => S
abbrev K_X8_latestDay_5 (X : pX) (Q : pO → Nat → pF → Prop) (mc ms : Nat) (l0 : Nat) (l1 : Int64) (S : pS) : Int32 → Prop := (fun b => gW X mX8_latestDay 39 [some (.ref l0), some (.long l1), none, some (.int b), none] [] S.1 S.2 Q mc ms)
def F_X8_latestDay_5 (l0 : Nat) (l1 : Int64) (S : pS) : Int32 × Int32 → Option ((Int32 × Int32) ⊕ (Int32)) := fun a => if (61 : Int32) ≤ a.2 then (some (.inr a.1)) else ((F_X9_contains S l1 a.2).bind fun q1 => if q1 = 0 then (some (.inl (a.1, a.2 + (1 : Int32)))) else ((oGA S l0 8 5).bind fun x3 => (oAI S x3 .int a.2).bind fun x5 => some (.inl (if a.1 < x5 then x5 else a.1, a.2 + (1 : Int32)))))
set_option maxRecDepth 100000 in
set_option maxHeartbeats 4000000 in
theorem W_X8_latestDay_5 {X : pX} {Q : pO → Nat → pF → Prop} {mc ms : Nat} (l0 : Nat) (l1 : Int64) (S : pS) : ∀ (a : Int32 × Int32) (r : (Int32 × Int32) ⊕ (Int32)), F_X8_latestDay_5 l0 l1 S a = some r → Sum.elim (fun a' => gW X mX8_latestDay 5 (L_X8_latestDay_5 l0 l1 S a') [] (s_X8_latestDay_5 l0 l1 S a').1 (s_X8_latestDay_5 l0 l1 S a').2 Q mc ms) (K_X8_latestDay_5 X Q mc ms l0 l1 S) r → gW X mX8_latestDay 5 (L_X8_latestDay_5 l0 l1 S a) [] (s_X8_latestDay_5 l0 l1 S a).1 (s_X8_latestDay_5 l0 l1 S a).2 Q mc ms := by
  intro a r hf hk
  obtain ⟨l3, l4⟩ := a
  unfold F_X8_latestDay_5 at hf
  try dsimp only at hf
  change gW _ _ _ [some (.ref l0), some (.long l1), none, some (.int l3), some (.int l4)] _ S.1 S.2 _ _ _
  refine r_iload (pc := 5) dX8_latestDay_5 rfl ?_
  refine r_bipush (pc := 7) (61 : Int32) dX8_latestDay_7 (by decide) ?_
  refine r_icmp_ge (pc := 9) 39 dX8_latestDay_9 (by decide) (fun hc => ?_) (fun hc => ?_)
  · rw [if_pos hc] at hf
    cases hf
    exact gW.weak (by simp [gle]) hk
  · rw [if_neg hc] at hf
    refine r_lload_n (pc := 12) dX8_latestDay_12 rfl ?_
    refine r_iload (pc := 13) dX8_latestDay_13 rfl ?_
    replace hf := obind hf
    obtain ⟨q1, e2, hf⟩ := hf
    refine q_callSN (pc := 15) (v := some (.int q1)) (S' := S) mX9_contains [.long l1, .int l4] dX8_latestDay_15 kX8_51 fX9_contains sX9_contains ⟨by decide, by decide⟩ rfl rfl (Nat.le_of_ble_eq_true rfl) (mc1 := 0) (ms1 := 0) (mc2 := mc) (ms2 := ms) (by omega) (by omega) (C_X9_contains S l1 l4 q1 e2 (qR_mk _ _)) ?_
    change gW _ _ _ _ (.int q1 :: _) _ _ _ _ _
    refine r_if_eq (pc := 18) 33 dX8_latestDay_18 (by decide) (fun hc => ?_) (fun hc => ?_)
    · rw [if_pos hc] at hf
      refine r_iinc (pc := 33) dX8_latestDay_33 rfl (by decide) ?_
      change gW _ _ _ [some (.ref l0), some (.long l1), none, some (.int l3), some (.int (l4 + (1 : Int32)))] _ _ _ _ _ _
      refine r_goto (pc := 36) 5 dX8_latestDay_36 (by decide) ?_
      cases hf
      exact gW.weak (by simp [gle]) hk
    · rw [if_neg hc] at hf
      refine r_iload_n (pc := 21) dX8_latestDay_21 rfl ?_
      refine r_aload_n (pc := 22) dX8_latestDay_22 rfl ?_
      replace hf := obind hf
      obtain ⟨x3, e4, hf⟩ := hf
      refine q_getA (pc := 23) dX8_latestDay_23 gX8_28 e4 ?_
      refine r_iload (pc := 26) dX8_latestDay_26 rfl ?_
      replace hf := obind hf
      obtain ⟨x5, e6, hf⟩ := hf
      refine q_iald (pc := 28) dX8_latestDay_28 e6 ?_
      refine r_max (pc := 29) dX8_latestDay_29 kX8_84 k_max.1 k_max.2.1 k_max.2.2 ⟨by decide, Nat.le_of_ble_eq_true rfl⟩ ?_
      refine r_istore_n (pc := 32) dX8_latestDay_32 (by decide) ?_
      change gW _ _ _ [some (.ref l0), some (.long l1), none, some (.int (if l3 < x5 then x5 else l3)), some (.int l4)] _ _ _ _ _ _
      refine r_iinc (pc := 33) dX8_latestDay_33 rfl (by decide) ?_
      change gW _ _ _ [some (.ref l0), some (.long l1), none, some (.int (if l3 < x5 then x5 else l3)), some (.int (l4 + (1 : Int32)))] _ _ _ _ _ _
      refine r_goto (pc := 36) 5 dX8_latestDay_36 (by decide) ?_
      cases hf
      exact gW.weak (by simp [gle]) hk
def F_X8_latestDay (S : pS) (a0 : Nat) (a1 : Int64) : Option (Int32) := (oF S a0 8).bind fun _ => (iter (F_X8_latestDay_5 a0 a1 S) fu ((-1 : Int32), (0 : Int32))).bind fun r7 => some r7
set_option maxRecDepth 100000 in
set_option maxHeartbeats 4000000 in
theorem C_X8_latestDay {X : pX} {Q : pO → Nat → pF → Prop} (S : pS) (a0 : Nat) (a1 : Int64) (r : Int32) (hf : F_X8_latestDay S a0 a1 = some r) (hk : Q (.inl (some (.int r))) S.1 S.2) : gC X mX8_latestDay [.ref a0, .long a1] S.1 S.2 Q 0 0 := by
  refine gC_of (by decide) (Nat.le_of_ble_eq_true rfl) rfl ?_
  change gW _ _ _ [some (.ref a0), some (.long a1), none, none, none] _ _ _ _ _ _
  unfold F_X8_latestDay at hf
  obtain ⟨_, _, hf⟩ := obind hf
  refine r_iconst (pc := 0) (-1 : Int32) dX8_latestDay_0 (by decide) ?_
  refine r_istore_n (pc := 1) dX8_latestDay_1 (by decide) ?_
  change gW _ _ _ [some (.ref a0), some (.long a1), none, some (.int (-1 : Int32)), none] _ _ _ _ _ _
  refine r_iconst (pc := 2) (0 : Int32) dX8_latestDay_2 (by decide) ?_
  refine r_istore (pc := 3) dX8_latestDay_3 (by decide) ?_
  change gW _ _ _ [some (.ref a0), some (.long a1), none, some (.int (-1 : Int32)), some (.int (0 : Int32))] _ _ _ _ _ _
  replace hf := obind hf
  obtain ⟨r7, e8, hf⟩ := hf
  refine gW.weak (ls' := [some (.ref a0), some (.long a1), none, some (.int (-1 : Int32)), some (.int (0 : Int32))]) (by simp [gle]) ?_
  refine g_iter (L := L_X8_latestDay_5 a0 a1 S) (s := s_X8_latestDay_5 a0 a1 S) (K := K_X8_latestDay_5 X Q _ _ a0 a1 S) (W_X8_latestDay_5 a0 a1 S) fu ((-1 : Int32), (0 : Int32)) _ e8 ?_
  show gW _ _ 39 [some (.ref a0), some (.long a1), none, some (.int r7), none] [] S.1 S.2 _ _ _
  refine r_iload_n (pc := 39) dX8_latestDay_39 rfl ?_
  refine r_ireturn (pc := 40) .int dX8_latestDay_40 rfl rfl ?_
  cases hf
  exact hk
abbrev L_X8_hasSoundChildren_2 (l0 : Nat) (S : pS) : Int32 → List (Option Value) := fun a => [some (.ref l0), some (.int a), none, none, none, none]
abbrev s_X8_hasSoundChildren_2 (l0 : Nat) (S : pS) : Int32 → pS := fun a => S
abbrev K_X8_hasSoundChildren_2 (X : pX) (Q : pO → Nat → pF → Prop) (mc ms : Nat) (l0 : Nat) (S : pS) : (Unit) ⊕ (Unit) → Prop := (Sum.elim (fun b => gW X mX8_hasSoundChildren 59 [some (.ref l0), none, none, none, none, none] [] S.1 S.2 Q mc ms) (fun b => gW X mX8_hasSoundChildren 81 [some (.ref l0), none, none, none, none, none] [] S.1 S.2 Q mc ms))
abbrev L_X8_hasSoundChildren_13 (l0 : Nat) (l1 : Int32) (S : pS) : Int64 × Int32 → List (Option Value) := fun a => [some (.ref l0), some (.int l1), some (.long a.1), none, some (.int a.2), none]
abbrev s_X8_hasSoundChildren_13 (l0 : Nat) (l1 : Int32) (S : pS) : Int64 × Int32 → pS := fun a => S
abbrev K_X8_hasSoundChildren_13 (X : pX) (Q : pO → Nat → pF → Prop) (mc ms : Nat) (l0 : Nat) (l1 : Int32) (S : pS) : (Unit) ⊕ (Unit) → Prop := (Sum.elim (fun b => gW X mX8_hasSoundChildren 59 [some (.ref l0), some (.int l1), none, none, none, none] [] S.1 S.2 Q mc ms) (fun b => gW X mX8_hasSoundChildren 75 [some (.ref l0), some (.int l1), none, none, none, none] [] S.1 S.2 Q mc ms))
def F_X8_hasSoundChildren_13 (l0 : Nat) (l1 : Int32) (S : pS) : Int64 × Int32 → Option ((Int64 × Int32) ⊕ ((Unit) ⊕ (Unit))) := fun a => (F_X8_holds S l0 l1).bind fun q1 => if q1 = 0 then (some (.inr (.inr ()))) else ((oGA S l0 8 0).bind fun x3 => (oAI S x3 .int l1).bind fun x5 => if x5 ≤ a.2 then (some (.inr (.inr ()))) else ((F_X8_childAt S l0 l1 a.2).bind fun q7 => (F_X8_holds S l0 q7).bind fun q9 => if q9 = 0 then (some (.inr (.inl ()))) else ((F_X9_contains S a.1 q7).bind fun q11 => if q11 = 0 then ((F_X9_with S a.1 q7 (1 : Int32)).bind fun q13 => some (.inl (q13, a.2 + (1 : Int32)))) else (some (.inr (.inl ()))))))
set_option maxRecDepth 100000 in
set_option maxHeartbeats 4000000 in
theorem W_X8_hasSoundChildren_13 {X : pX} {Q : pO → Nat → pF → Prop} {mc ms : Nat} (l0 : Nat) (l1 : Int32) (S : pS) : ∀ (a : Int64 × Int32) (r : (Int64 × Int32) ⊕ ((Unit) ⊕ (Unit))), F_X8_hasSoundChildren_13 l0 l1 S a = some r → Sum.elim (fun a' => gW X mX8_hasSoundChildren 13 (L_X8_hasSoundChildren_13 l0 l1 S a') [] (s_X8_hasSoundChildren_13 l0 l1 S a').1 (s_X8_hasSoundChildren_13 l0 l1 S a').2 Q mc ms) (K_X8_hasSoundChildren_13 X Q mc ms l0 l1 S) r → gW X mX8_hasSoundChildren 13 (L_X8_hasSoundChildren_13 l0 l1 S a) [] (s_X8_hasSoundChildren_13 l0 l1 S a).1 (s_X8_hasSoundChildren_13 l0 l1 S a).2 Q mc ms := by
  intro a r hf hk
  obtain ⟨l2, l4⟩ := a
  unfold F_X8_hasSoundChildren_13 at hf
  try dsimp only at hf
  change gW _ _ _ [some (.ref l0), some (.int l1), some (.long l2), none, some (.int l4), none] _ S.1 S.2 _ _ _
  refine r_aload_n (pc := 13) dX8_hasSoundChildren_13 rfl ?_
  refine r_iload_n (pc := 14) dX8_hasSoundChildren_14 rfl ?_
  replace hf := obind hf
  obtain ⟨q1, e2, hf⟩ := hf
  refine q_callV (pc := 15) (v := some (.int q1)) (S' := S) mX8_holds 8 [.int l1] dX8_hasSoundChildren_15 kX8_75 fX8_holds iX8_holds ⟨by decide, by decide⟩ rfl rfl rfl (Nat.le_of_ble_eq_true rfl) (og e2) (mc1 := 0) (ms1 := 0) (mc2 := mc) (ms2 := ms) (by omega) (by omega) (C_X8_holds S l0 l1 q1 e2 (qR_mk _ _)) ?_
  change gW _ _ _ _ (.int q1 :: _) _ _ _ _ _
  refine r_if_eq (pc := 18) 75 dX8_hasSoundChildren_18 (by decide) (fun hc => ?_) (fun hc => ?_)
  · rw [if_pos hc] at hf
    cases hf
    exact gW.weak (by simp [gle]) hk
  · rw [if_neg hc] at hf
    refine r_iload (pc := 21) dX8_hasSoundChildren_21 rfl ?_
    refine r_aload_n (pc := 23) dX8_hasSoundChildren_23 rfl ?_
    replace hf := obind hf
    obtain ⟨x3, e4, hf⟩ := hf
    refine q_getA (pc := 24) dX8_hasSoundChildren_24 gX8_9 e4 ?_
    refine r_iload_n (pc := 27) dX8_hasSoundChildren_27 rfl ?_
    replace hf := obind hf
    obtain ⟨x5, e6, hf⟩ := hf
    refine q_iald (pc := 28) dX8_hasSoundChildren_28 e6 ?_
    refine r_icmp_ge (pc := 29) 75 dX8_hasSoundChildren_29 (by decide) (fun hc => ?_) (fun hc => ?_)
    · rw [if_pos hc] at hf
      cases hf
      exact gW.weak (by simp [gle]) hk
    · rw [if_neg hc] at hf
      refine r_aload_n (pc := 32) dX8_hasSoundChildren_32 rfl ?_
      refine r_iload_n (pc := 33) dX8_hasSoundChildren_33 rfl ?_
      refine r_iload (pc := 34) dX8_hasSoundChildren_34 rfl ?_
      replace hf := obind hf
      obtain ⟨q7, e8, hf⟩ := hf
      refine q_callV (pc := 36) (v := some (.int q7)) (S' := S) mX8_childAt 8 [.int l1, .int l4] dX8_hasSoundChildren_36 kX8_71 fX8_childAt iX8_childAt ⟨by decide, by decide⟩ rfl rfl rfl (Nat.le_of_ble_eq_true rfl) (og e8) (mc1 := 0) (ms1 := 0) (mc2 := mc) (ms2 := ms) (by omega) (by omega) (C_X8_childAt S l0 l1 l4 q7 e8 (qR_mk _ _)) ?_
      change gW _ _ _ _ (.int q7 :: _) _ _ _ _ _
      refine r_istore (pc := 39) dX8_hasSoundChildren_39 (by decide) ?_
      change gW _ _ _ [some (.ref l0), some (.int l1), some (.long l2), none, some (.int l4), some (.int q7)] _ _ _ _ _ _
      refine r_aload_n (pc := 41) dX8_hasSoundChildren_41 rfl ?_
      refine r_iload (pc := 42) dX8_hasSoundChildren_42 rfl ?_
      replace hf := obind hf
      obtain ⟨q9, e10, hf⟩ := hf
      refine q_callV (pc := 44) (v := some (.int q9)) (S' := S) mX8_holds 8 [.int q7] dX8_hasSoundChildren_44 kX8_75 fX8_holds iX8_holds ⟨by decide, by decide⟩ rfl rfl rfl (Nat.le_of_ble_eq_true rfl) (og e10) (mc1 := 0) (ms1 := 0) (mc2 := mc) (ms2 := ms) (by omega) (by omega) (C_X8_holds S l0 q7 q9 e10 (qR_mk _ _)) ?_
      change gW _ _ _ _ (.int q9 :: _) _ _ _ _ _
      refine r_if_eq (pc := 47) 59 dX8_hasSoundChildren_47 (by decide) (fun hc => ?_) (fun hc => ?_)
      · rw [if_pos hc] at hf
        cases hf
        exact gW.weak (by simp [gle]) hk
      · rw [if_neg hc] at hf
        refine r_lload_n (pc := 50) dX8_hasSoundChildren_50 rfl ?_
        refine r_iload (pc := 51) dX8_hasSoundChildren_51 rfl ?_
        replace hf := obind hf
        obtain ⟨q11, e12, hf⟩ := hf
        refine q_callSN (pc := 53) (v := some (.int q11)) (S' := S) mX9_contains [.long l2, .int q7] dX8_hasSoundChildren_53 kX8_51 fX9_contains sX9_contains ⟨by decide, by decide⟩ rfl rfl (Nat.le_of_ble_eq_true rfl) (mc1 := 0) (ms1 := 0) (mc2 := mc) (ms2 := ms) (by omega) (by omega) (C_X9_contains S l2 q7 q11 e12 (qR_mk _ _)) ?_
        change gW _ _ _ _ (.int q11 :: _) _ _ _ _ _
        refine r_if_eq (pc := 56) 61 dX8_hasSoundChildren_56 (by decide) (fun hc => ?_) (fun hc => ?_)
        · rw [if_pos hc] at hf
          refine r_lload_n (pc := 61) dX8_hasSoundChildren_61 rfl ?_
          refine r_iload (pc := 62) dX8_hasSoundChildren_62 rfl ?_
          refine r_iconst (pc := 64) (1 : Int32) dX8_hasSoundChildren_64 (by decide) ?_
          replace hf := obind hf
          obtain ⟨q13, e14, hf⟩ := hf
          refine q_callSN (pc := 65) (v := some (.long q13)) (S' := S) mX9_with [.long l2, .int q7, .int (1 : Int32)] dX8_hasSoundChildren_65 kX8_61 fX9_with sX9_with ⟨by decide, by decide⟩ rfl rfl (Nat.le_of_ble_eq_true rfl) (mc1 := 0) (ms1 := 0) (mc2 := mc) (ms2 := ms) (by omega) (by omega) (C_X9_with S l2 q7 (1 : Int32) q13 e14 (qR_mk _ _)) ?_
          change gW _ _ _ _ (.long q13 :: _) _ _ _ _ _
          refine r_lstore_n (pc := 68) dX8_hasSoundChildren_68 (by decide) ?_
          change gW _ _ _ [some (.ref l0), some (.int l1), some (.long q13), none, some (.int l4), some (.int q7)] _ _ _ _ _ _
          refine r_iinc (pc := 69) dX8_hasSoundChildren_69 rfl (by decide) ?_
          change gW _ _ _ [some (.ref l0), some (.int l1), some (.long q13), none, some (.int (l4 + (1 : Int32))), some (.int q7)] _ _ _ _ _ _
          refine r_goto (pc := 72) 13 dX8_hasSoundChildren_72 (by decide) ?_
          cases hf
          exact gW.weak (by simp [gle]) hk
        · rw [if_neg hc] at hf
          cases hf
          exact gW.weak (by simp [gle]) hk
def F_X8_hasSoundChildren_2 (l0 : Nat) (S : pS) : Int32 → Option ((Int32) ⊕ ((Unit) ⊕ (Unit))) := fun a => if (61 : Int32) ≤ a then (some (.inr (.inr ()))) else ((iter (F_X8_hasSoundChildren_13 l0 a S) fu ((1 : Int64), (0 : Int32))).bind fun r15 => Sum.elim (fun q17 => some (.inr (.inl ()))) (fun q17 => some (.inl (a + (1 : Int32)))) r15)
set_option maxRecDepth 100000 in
set_option maxHeartbeats 4000000 in
theorem W_X8_hasSoundChildren_2 {X : pX} {Q : pO → Nat → pF → Prop} {mc ms : Nat} (l0 : Nat) (S : pS) : ∀ (a : Int32) (r : (Int32) ⊕ ((Unit) ⊕ (Unit))), F_X8_hasSoundChildren_2 l0 S a = some r → Sum.elim (fun a' => gW X mX8_hasSoundChildren 2 (L_X8_hasSoundChildren_2 l0 S a') [] (s_X8_hasSoundChildren_2 l0 S a').1 (s_X8_hasSoundChildren_2 l0 S a').2 Q mc ms) (K_X8_hasSoundChildren_2 X Q mc ms l0 S) r → gW X mX8_hasSoundChildren 2 (L_X8_hasSoundChildren_2 l0 S a) [] (s_X8_hasSoundChildren_2 l0 S a).1 (s_X8_hasSoundChildren_2 l0 S a).2 Q mc ms := by
  intro l1 r hf hk
  unfold F_X8_hasSoundChildren_2 at hf
  try dsimp only at hf
  change gW _ _ _ [some (.ref l0), some (.int l1), none, none, none, none] _ S.1 S.2 _ _ _
  refine r_iload_n (pc := 2) dX8_hasSoundChildren_2 rfl ?_
  refine r_bipush (pc := 3) (61 : Int32) dX8_hasSoundChildren_3 (by decide) ?_
  refine r_icmp_ge (pc := 5) 81 dX8_hasSoundChildren_5 (by decide) (fun hc => ?_) (fun hc => ?_)
  · rw [if_pos hc] at hf
    cases hf
    exact gW.weak (by simp [gle]) hk
  · rw [if_neg hc] at hf
    refine r_lconst (pc := 8) (1 : Int64) dX8_hasSoundChildren_8 (by decide) ?_
    refine r_lstore_n (pc := 9) dX8_hasSoundChildren_9 (by decide) ?_
    change gW _ _ _ [some (.ref l0), some (.int l1), some (.long (1 : Int64)), none, none, none] _ _ _ _ _ _
    refine r_iconst (pc := 10) (0 : Int32) dX8_hasSoundChildren_10 (by decide) ?_
    refine r_istore (pc := 11) dX8_hasSoundChildren_11 (by decide) ?_
    change gW _ _ _ [some (.ref l0), some (.int l1), some (.long (1 : Int64)), none, some (.int (0 : Int32)), none] _ _ _ _ _ _
    replace hf := obind hf
    obtain ⟨r15, e16, hf⟩ := hf
    refine gW.weak (ls' := [some (.ref l0), some (.int l1), some (.long (1 : Int64)), none, some (.int (0 : Int32)), none]) (by simp [gle]) ?_
    refine g_iter (L := L_X8_hasSoundChildren_13 l0 l1 S) (s := s_X8_hasSoundChildren_13 l0 l1 S) (K := K_X8_hasSoundChildren_13 X Q _ _ l0 l1 S) (W_X8_hasSoundChildren_13 l0 l1 S) fu ((1 : Int64), (0 : Int32)) _ e16 ?_
    rcases r15 with q17 | q17
    · simp only [Sum.elim_inl, Sum.elim_inr] at hf
      show gW _ _ 59 [some (.ref l0), some (.int l1), none, none, none, none] [] S.1 S.2 _ _ _
      cases hf
      exact gW.weak (by simp [gle]) hk
    · simp only [Sum.elim_inl, Sum.elim_inr] at hf
      show gW _ _ 75 [some (.ref l0), some (.int l1), none, none, none, none] [] S.1 S.2 _ _ _
      refine r_iinc (pc := 75) dX8_hasSoundChildren_75 rfl (by decide) ?_
      change gW _ _ _ [some (.ref l0), some (.int (l1 + (1 : Int32))), none, none, none, none] _ _ _ _ _ _
      refine r_goto (pc := 78) 2 dX8_hasSoundChildren_78 (by decide) ?_
      cases hf
      exact gW.weak (by simp [gle]) hk
def F_X8_hasSoundChildren (S : pS) (a0 : Nat) : Option (Int32) := (oF S a0 8).bind fun _ => (iter (F_X8_hasSoundChildren_2 a0 S) fu (0 : Int32)).bind fun r18 => Sum.elim (fun q20 => some (0 : Int32)) (fun q20 => some (1 : Int32)) r18
set_option maxRecDepth 100000 in
set_option maxHeartbeats 4000000 in
theorem C_X8_hasSoundChildren {X : pX} {Q : pO → Nat → pF → Prop} (S : pS) (a0 : Nat) (r : Int32) (hf : F_X8_hasSoundChildren S a0 = some r) (hk : Q (.inl (some (.int r))) S.1 S.2) : gC X mX8_hasSoundChildren [.ref a0] S.1 S.2 Q 0 0 := by
  refine gC_of (by decide) (Nat.le_of_ble_eq_true rfl) rfl ?_
  change gW _ _ _ [some (.ref a0), none, none, none, none, none] _ _ _ _ _ _
  unfold F_X8_hasSoundChildren at hf
  obtain ⟨_, _, hf⟩ := obind hf
  refine r_iconst (pc := 0) (0 : Int32) dX8_hasSoundChildren_0 (by decide) ?_
  refine r_istore_n (pc := 1) dX8_hasSoundChildren_1 (by decide) ?_
  change gW _ _ _ [some (.ref a0), some (.int (0 : Int32)), none, none, none, none] _ _ _ _ _ _
  replace hf := obind hf
  obtain ⟨r18, e19, hf⟩ := hf
  refine gW.weak (ls' := [some (.ref a0), some (.int (0 : Int32)), none, none, none, none]) (by simp [gle]) ?_
  refine g_iter (L := L_X8_hasSoundChildren_2 a0 S) (s := s_X8_hasSoundChildren_2 a0 S) (K := K_X8_hasSoundChildren_2 X Q _ _ a0 S) (W_X8_hasSoundChildren_2 a0 S) fu (0 : Int32) _ e19 ?_
  rcases r18 with q20 | q20
  · simp only [Sum.elim_inl, Sum.elim_inr] at hf
    show gW _ _ 59 [some (.ref a0), none, none, none, none, none] [] S.1 S.2 _ _ _
    refine r_iconst (pc := 59) (0 : Int32) dX8_hasSoundChildren_59 (by decide) ?_
    refine r_ireturn (pc := 60) .boolean dX8_hasSoundChildren_60 rfl rfl ?_
    cases hf
    exact hk
  · simp only [Sum.elim_inl, Sum.elim_inr] at hf
    show gW _ _ 81 [some (.ref a0), none, none, none, none, none] [] S.1 S.2 _ _ _
    refine r_iconst (pc := 81) (1 : Int32) dX8_hasSoundChildren_81 (by decide) ?_
    refine r_ireturn (pc := 82) .boolean dX8_hasSoundChildren_82 rfl rfl ?_
    cases hf
    exact hk
abbrev L_X8_hasParentsAs_2 (l0 : Nat) (l1 : Nat) (S : pS) : Int32 → List (Option Value) := fun a => [some (.ref l0), some (.ref l1), some (.int a)]
abbrev s_X8_hasParentsAs_2 (l0 : Nat) (l1 : Nat) (S : pS) : Int32 → pS := fun a => S
abbrev K_X8_hasParentsAs_2 (X : pX) (Q : pO → Nat → pF → Prop) (mc ms : Nat) (l0 : Nat) (l1 : Nat) (S : pS) : (Unit) ⊕ (Unit) → Prop := (Sum.elim (fun b => gW X mX8_hasParentsAs 29 [some (.ref l0), some (.ref l1), none] [] S.1 S.2 Q mc ms) (fun b => gW X mX8_hasParentsAs 37 [some (.ref l0), some (.ref l1), none] [] S.1 S.2 Q mc ms))
def F_X8_hasParentsAs_2 (l0 : Nat) (l1 : Nat) (S : pS) : Int32 → Option ((Int32) ⊕ ((Unit) ⊕ (Unit))) := fun a => if (61 : Int32) ≤ a then (some (.inr (.inr ()))) else ((F_X8_holds S l0 a).bind fun q1 => if q1 = 0 then (some (.inl (a + (1 : Int32)))) else ((F_X8_countParents S l0 a).bind fun q3 => (F_X6_parentsOf S l1 a).bind fun q5 => if q3 = q5 then (some (.inl (a + (1 : Int32)))) else (some (.inr (.inl ())))))
set_option maxRecDepth 100000 in
set_option maxHeartbeats 4000000 in
theorem W_X8_hasParentsAs_2 {X : pX} {Q : pO → Nat → pF → Prop} {mc ms : Nat} (l0 : Nat) (l1 : Nat) (S : pS) : ∀ (a : Int32) (r : (Int32) ⊕ ((Unit) ⊕ (Unit))), F_X8_hasParentsAs_2 l0 l1 S a = some r → Sum.elim (fun a' => gW X mX8_hasParentsAs 2 (L_X8_hasParentsAs_2 l0 l1 S a') [] (s_X8_hasParentsAs_2 l0 l1 S a').1 (s_X8_hasParentsAs_2 l0 l1 S a').2 Q mc ms) (K_X8_hasParentsAs_2 X Q mc ms l0 l1 S) r → gW X mX8_hasParentsAs 2 (L_X8_hasParentsAs_2 l0 l1 S a) [] (s_X8_hasParentsAs_2 l0 l1 S a).1 (s_X8_hasParentsAs_2 l0 l1 S a).2 Q mc ms := by
  intro l2 r hf hk
  unfold F_X8_hasParentsAs_2 at hf
  try dsimp only at hf
  change gW _ _ _ [some (.ref l0), some (.ref l1), some (.int l2)] _ S.1 S.2 _ _ _
  refine r_iload_n (pc := 2) dX8_hasParentsAs_2 rfl ?_
  refine r_bipush (pc := 3) (61 : Int32) dX8_hasParentsAs_3 (by decide) ?_
  refine r_icmp_ge (pc := 5) 37 dX8_hasParentsAs_5 (by decide) (fun hc => ?_) (fun hc => ?_)
  · rw [if_pos hc] at hf
    cases hf
    exact gW.weak (by simp [gle]) hk
  · rw [if_neg hc] at hf
    refine r_aload_n (pc := 8) dX8_hasParentsAs_8 rfl ?_
    refine r_iload_n (pc := 9) dX8_hasParentsAs_9 rfl ?_
    replace hf := obind hf
    obtain ⟨q1, e2, hf⟩ := hf
    refine q_callV (pc := 10) (v := some (.int q1)) (S' := S) mX8_holds 8 [.int l2] dX8_hasParentsAs_10 kX8_75 fX8_holds iX8_holds ⟨by decide, by decide⟩ rfl rfl rfl (Nat.le_of_ble_eq_true rfl) (og e2) (mc1 := 0) (ms1 := 0) (mc2 := mc) (ms2 := ms) (by omega) (by omega) (C_X8_holds S l0 l2 q1 e2 (qR_mk _ _)) ?_
    change gW _ _ _ _ (.int q1 :: _) _ _ _ _ _
    refine r_if_eq (pc := 13) 31 dX8_hasParentsAs_13 (by decide) (fun hc => ?_) (fun hc => ?_)
    · rw [if_pos hc] at hf
      refine r_iinc (pc := 31) dX8_hasParentsAs_31 rfl (by decide) ?_
      change gW _ _ _ [some (.ref l0), some (.ref l1), some (.int (l2 + (1 : Int32)))] _ _ _ _ _ _
      refine r_goto (pc := 34) 2 dX8_hasParentsAs_34 (by decide) ?_
      cases hf
      exact gW.weak (by simp [gle]) hk
    · rw [if_neg hc] at hf
      refine r_aload_n (pc := 16) dX8_hasParentsAs_16 rfl ?_
      refine r_iload_n (pc := 17) dX8_hasParentsAs_17 rfl ?_
      replace hf := obind hf
      obtain ⟨q3, e4, hf⟩ := hf
      refine q_callV (pc := 18) (v := some (.int q3)) (S' := S) mX8_countParents 8 [.int l2] dX8_hasParentsAs_18 kX8_93 fX8_countParents iX8_countParents ⟨by decide, by decide⟩ rfl rfl rfl (Nat.le_of_ble_eq_true rfl) (og e4) (mc1 := 0) (ms1 := 0) (mc2 := mc) (ms2 := ms) (by omega) (by omega) (C_X8_countParents S l0 l2 q3 e4 (qR_mk _ _)) ?_
      change gW _ _ _ _ (.int q3 :: _) _ _ _ _ _
      refine r_aload_n (pc := 21) dX8_hasParentsAs_21 rfl ?_
      refine r_iload_n (pc := 22) dX8_hasParentsAs_22 rfl ?_
      replace hf := obind hf
      obtain ⟨q5, e6, hf⟩ := hf
      refine q_callV (pc := 23) (v := some (.int q5)) (S' := S) mX6_parentsOf 6 [.int l2] dX8_hasParentsAs_23 kX8_97 fX6_parentsOf iX6_parentsOf ⟨by decide, by decide⟩ rfl rfl rfl (Nat.le_of_ble_eq_true rfl) (og e6) (mc1 := 0) (ms1 := 0) (mc2 := mc) (ms2 := ms) (by omega) (by omega) (C_X6_parentsOf S l1 l2 q5 e6 (qR_mk _ _)) ?_
      change gW _ _ _ _ (.int q5 :: _) _ _ _ _ _
      refine r_icmp_eq (pc := 26) 31 dX8_hasParentsAs_26 (by decide) (fun hc => ?_) (fun hc => ?_)
      · rw [if_pos hc] at hf
        refine r_iinc (pc := 31) dX8_hasParentsAs_31 rfl (by decide) ?_
        change gW _ _ _ [some (.ref l0), some (.ref l1), some (.int (l2 + (1 : Int32)))] _ _ _ _ _ _
        refine r_goto (pc := 34) 2 dX8_hasParentsAs_34 (by decide) ?_
        cases hf
        exact gW.weak (by simp [gle]) hk
      · rw [if_neg hc] at hf
        cases hf
        exact gW.weak (by simp [gle]) hk
def F_X8_hasParentsAs (S : pS) (a0 : Nat) (a1 : Nat) : Option (Int32) := (oF S a0 8).bind fun _ => (iter (F_X8_hasParentsAs_2 a0 a1 S) fu (0 : Int32)).bind fun r7 => Sum.elim (fun q9 => some (0 : Int32)) (fun q9 => some (1 : Int32)) r7
set_option maxRecDepth 100000 in
set_option maxHeartbeats 4000000 in
theorem C_X8_hasParentsAs {X : pX} {Q : pO → Nat → pF → Prop} (S : pS) (a0 : Nat) (a1 : Nat) (r : Int32) (hf : F_X8_hasParentsAs S a0 a1 = some r) (hk : Q (.inl (some (.int r))) S.1 S.2) : gC X mX8_hasParentsAs [.ref a0, .ref a1] S.1 S.2 Q 0 0 := by
  refine gC_of (by decide) (Nat.le_of_ble_eq_true rfl) rfl ?_
  change gW _ _ _ [some (.ref a0), some (.ref a1), none] _ _ _ _ _ _
  unfold F_X8_hasParentsAs at hf
  obtain ⟨_, _, hf⟩ := obind hf
  refine r_iconst (pc := 0) (0 : Int32) dX8_hasParentsAs_0 (by decide) ?_
  refine r_istore_n (pc := 1) dX8_hasParentsAs_1 (by decide) ?_
  change gW _ _ _ [some (.ref a0), some (.ref a1), some (.int (0 : Int32))] _ _ _ _ _ _
  replace hf := obind hf
  obtain ⟨r7, e8, hf⟩ := hf
  refine gW.weak (ls' := [some (.ref a0), some (.ref a1), some (.int (0 : Int32))]) (by simp [gle]) ?_
  refine g_iter (L := L_X8_hasParentsAs_2 a0 a1 S) (s := s_X8_hasParentsAs_2 a0 a1 S) (K := K_X8_hasParentsAs_2 X Q _ _ a0 a1 S) (W_X8_hasParentsAs_2 a0 a1 S) fu (0 : Int32) _ e8 ?_
  rcases r7 with q9 | q9
  · simp only [Sum.elim_inl, Sum.elim_inr] at hf
    show gW _ _ 29 [some (.ref a0), some (.ref a1), none] [] S.1 S.2 _ _ _
    refine r_iconst (pc := 29) (0 : Int32) dX8_hasParentsAs_29 (by decide) ?_
    refine r_ireturn (pc := 30) .boolean dX8_hasParentsAs_30 rfl rfl ?_
    cases hf
    exact hk
  · simp only [Sum.elim_inl, Sum.elim_inr] at hf
    show gW _ _ 37 [some (.ref a0), some (.ref a1), none] [] S.1 S.2 _ _ _
    refine r_iconst (pc := 37) (1 : Int32) dX8_hasParentsAs_37 (by decide) ?_
    refine r_ireturn (pc := 38) .boolean dX8_hasParentsAs_38 rfl rfl ?_
    cases hf
    exact hk
def F_X9_init (S : pS) (a0 : Nat) : Option (pS) := (F_X8_init (oNew S (.inr (8, dfX8))) S.1).bind fun q1 => (oPA q1 a0 9 0 S.1).bind fun S3 => (F_X8_init (oNew S3 (.inr (8, dfX8))) S3.1).bind fun q5 => (oPA q5 a0 9 1 S3.1).bind fun S7 => (oPN S7 a0 9 2 none).bind fun S9 => (F_X6_init (oNew S9 (.inr (6, dfX6))) S9.1).bind fun q11 => (oPA q11 a0 9 3 S9.1).bind fun S13 => (F_X6_init (oNew S13 (.inr (6, dfX6))) S13.1).bind fun q15 => (oPA q15 a0 9 4 S13.1).bind fun S17 => (F_X3_init (oNew S17 (.inr (3, dfX3))) S17.1).bind fun q19 => (oPA q19 a0 9 5 S17.1).bind fun S21 => (F_X4_init (oNew S21 (.inr (4, dfX4))) S21.1).bind fun q23 => (oPA q23 a0 9 6 S21.1).bind fun S25 => (F_X1_init (oNew S25 (.inr (1, dfX1))) S25.1).bind fun q27 => (oPA q27 a0 9 7 S25.1).bind fun S29 => (F_X1_init (oNew S29 (.inr (1, dfX1))) S29.1).bind fun q31 => (oPA q31 a0 9 8 S29.1).bind fun S33 => (F_X5_init (oNew S33 (.inr (5, dfX5))) S33.1).bind fun q35 => (oPA q35 a0 9 9 S33.1).bind fun S37 => (F_X7_init (oNew S37 (.inr (7, dfX7))) S37.1).bind fun q39 => (oPA q39 a0 9 10 S37.1).bind fun S41 => (F_X2_init (oNew S41 (.inr (2, dfX2))) S41.1).bind fun q43 => (oPA q43 a0 9 11 S41.1).bind fun S45 => (F_X0_init (oNew S45 (.inr (0, dfX0))) S45.1).bind fun q47 => (oPA q47 a0 9 12 S45.1).bind fun S49 => (oPA (oNew S49 (.inl (.char, 10, .inl (fun _ => 0)))) a0 9 13 S49.1).bind fun S51 => (oPA (oNew S51 (.inl (.int, 12, .inl (fun _ => 0)))) a0 9 14 S51.1).bind fun S53 => (oPI S53 a0 9 15 (-1000000 : Int32)).bind fun S55 => some S55
set_option maxRecDepth 100000 in
set_option maxHeartbeats 4000000 in
theorem C_X9_init {X : pX} {Q : pO → Nat → pF → Prop} (S : pS) (a0 : Nat) (r : pS) (hf : F_X9_init S a0 = some r) (hk : Q (.inl none) r.1 r.2) : gC X mX9_init [.ref a0] S.1 S.2 Q 67 6540 := by
  refine gC_of (by decide) (Nat.le_of_ble_eq_true rfl) rfl ?_
  change gW _ _ _ [some (.ref a0)] _ _ _ _ _ _
  unfold F_X9_init at hf
  refine r_aload_n (pc := 0) dX9_init_0 rfl ?_
  refine r_objInit (pc := 1) dX9_init_1 kX9_3 k_obj.1 k_obj.2 ⟨by decide, Nat.le_of_ble_eq_true rfl⟩ ?_
  refine r_aload_n (pc := 4) dX9_init_4 rfl ?_
  refine r_new (pc := 5) 8 tyX8 dX9_init_5 rfl uX8 tyX8_ok nX9_9.1 nX9_9.2.1 nX9_9.2.2 (mc2 := 66) (ms2 := 6530) (by decide) (by decide) dfX8_ok ?_
  change gW _ _ _ _ _ (oNew S (.inr (8, dfX8))).1 (oNew S (.inr (8, dfX8))).2 _ _ _
  refine r_dup (pc := 8) dX9_init_8 rfl ?_
  replace hf := obind hf
  obtain ⟨q1, e2, hf⟩ := hf
  refine q_callI (pc := 9) (S' := q1) mX8_init dX9_init_9 kX9_11 fX8_init iX8_init rfl rfl ⟨by decide, by decide⟩ (Nat.le_of_ble_eq_true rfl) (mc1 := 6) (ms1 := 1586) (mc2 := 60) (ms2 := 4944) (by decide) (by decide) (C_X8_init (oNew S (.inr (8, dfX8))) S.1 q1 e2 (qR_mk _ _)) ?_
  replace hf := obind hf
  obtain ⟨S3, e4, hf⟩ := hf
  refine q_putA (pc := 12) dX9_init_12 pX9_12 (Or.inl ⟨_, rfl⟩) e4 ?_
  refine r_aload_n (pc := 15) dX9_init_15 rfl ?_
  refine r_new (pc := 16) 8 tyX8 dX9_init_16 rfl uX8 tyX8_ok nX9_9.1 nX9_9.2.1 nX9_9.2.2 (mc2 := 59) (ms2 := 4934) (by decide) (by decide) dfX8_ok ?_
  change gW _ _ _ _ _ (oNew S3 (.inr (8, dfX8))).1 (oNew S3 (.inr (8, dfX8))).2 _ _ _
  refine r_dup (pc := 19) dX9_init_19 rfl ?_
  replace hf := obind hf
  obtain ⟨q5, e6, hf⟩ := hf
  refine q_callI (pc := 20) (S' := q5) mX8_init dX9_init_20 kX9_11 fX8_init iX8_init rfl rfl ⟨by decide, by decide⟩ (Nat.le_of_ble_eq_true rfl) (mc1 := 6) (ms1 := 1586) (mc2 := 53) (ms2 := 3348) (by decide) (by decide) (C_X8_init (oNew S3 (.inr (8, dfX8))) S3.1 q5 e6 (qR_mk _ _)) ?_
  replace hf := obind hf
  obtain ⟨S7, e8, hf⟩ := hf
  refine q_putA (pc := 23) dX9_init_23 pX9_16 (Or.inl ⟨_, rfl⟩) e8 ?_
  refine r_aload_n (pc := 26) dX9_init_26 rfl ?_
  refine r_null (pc := 27) dX9_init_27 ?_
  replace hf := obind hf
  obtain ⟨S9, e10, hf⟩ := hf
  refine q_putN (pc := 28) dX9_init_28 pX9_19 (Or.inl ⟨_, rfl⟩) e10 ?_
  refine r_aload_n (pc := 31) dX9_init_31 rfl ?_
  refine r_new (pc := 32) 6 tyX6 dX9_init_32 rfl uX6 tyX6_ok nX9_22.1 nX9_22.2.1 nX9_22.2.2 (mc2 := 52) (ms2 := 3340) (by decide) (by decide) dfX6_ok ?_
  change gW _ _ _ _ _ (oNew S9 (.inr (6, dfX6))).1 (oNew S9 (.inr (6, dfX6))).2 _ _ _
  refine r_dup (pc := 35) dX9_init_35 rfl ?_
  replace hf := obind hf
  obtain ⟨q11, e12, hf⟩ := hf
  refine q_callI (pc := 36) (S' := q11) mX6_init dX9_init_36 kX9_24 fX6_init iX6_init rfl rfl ⟨by decide, by decide⟩ (Nat.le_of_ble_eq_true rfl) (mc1 := 7) (ms1 := 427) (mc2 := 45) (ms2 := 2913) (by decide) (by decide) (C_X6_init (oNew S9 (.inr (6, dfX6))) S9.1 q11 e12 (qR_mk _ _)) ?_
  replace hf := obind hf
  obtain ⟨S13, e14, hf⟩ := hf
  refine q_putAF (pc := 39) dX9_init_39 pX9_25 (Or.inl ⟨_, rfl⟩) rfl e14 ?_
  refine r_aload_n (pc := 42) dX9_init_42 rfl ?_
  refine r_new (pc := 43) 6 tyX6 dX9_init_43 rfl uX6 tyX6_ok nX9_22.1 nX9_22.2.1 nX9_22.2.2 (mc2 := 44) (ms2 := 2905) (by decide) (by decide) dfX6_ok ?_
  change gW _ _ _ _ _ (oNew S13 (.inr (6, dfX6))).1 (oNew S13 (.inr (6, dfX6))).2 _ _ _
  refine r_dup (pc := 46) dX9_init_46 rfl ?_
  replace hf := obind hf
  obtain ⟨q15, e16, hf⟩ := hf
  refine q_callI (pc := 47) (S' := q15) mX6_init dX9_init_47 kX9_24 fX6_init iX6_init rfl rfl ⟨by decide, by decide⟩ (Nat.le_of_ble_eq_true rfl) (mc1 := 7) (ms1 := 427) (mc2 := 37) (ms2 := 2478) (by decide) (by decide) (C_X6_init (oNew S13 (.inr (6, dfX6))) S13.1 q15 e16 (qR_mk _ _)) ?_
  replace hf := obind hf
  obtain ⟨S17, e18, hf⟩ := hf
  refine q_putAF (pc := 50) dX9_init_50 pX9_29 (Or.inl ⟨_, rfl⟩) rfl e18 ?_
  refine r_aload_n (pc := 53) dX9_init_53 rfl ?_
  refine r_new (pc := 54) 3 tyX3 dX9_init_54 rfl uX3 tyX3_ok nX9_32.1 nX9_32.2.1 nX9_32.2.2 (mc2 := 36) (ms2 := 2476) (by decide) (by decide) dfX3_ok ?_
  change gW _ _ _ _ _ (oNew S17 (.inr (3, dfX3))).1 (oNew S17 (.inr (3, dfX3))).2 _ _ _
  refine r_dup (pc := 57) dX9_init_57 rfl ?_
  replace hf := obind hf
  obtain ⟨q19, e20, hf⟩ := hf
  refine q_callIN (pc := 58) (S' := q19) mX3_init dX9_init_58 kX9_34 fX3_init iX3_init rfl rfl ⟨by decide, by decide⟩ (Nat.le_of_ble_eq_true rfl) (mc1 := 1) (ms1 := 8) (mc2 := 35) (ms2 := 2468) (by decide) (by decide) (C_X3_init (oNew S17 (.inr (3, dfX3))) S17.1 q19 e20 (qR_mk _ _)) ?_
  replace hf := obind hf
  obtain ⟨S21, e22, hf⟩ := hf
  refine q_putAF (pc := 61) dX9_init_61 pX9_35 (Or.inl ⟨_, rfl⟩) rfl e22 ?_
  refine r_aload_n (pc := 64) dX9_init_64 rfl ?_
  refine r_new (pc := 65) 4 tyX4 dX9_init_65 rfl uX4 tyX4_ok nX9_39.1 nX9_39.2.1 nX9_39.2.2 (mc2 := 34) (ms2 := 2466) (by decide) (by decide) dfX4_ok ?_
  change gW _ _ _ _ _ (oNew S21 (.inr (4, dfX4))).1 (oNew S21 (.inr (4, dfX4))).2 _ _ _
  refine r_dup (pc := 68) dX9_init_68 rfl ?_
  replace hf := obind hf
  obtain ⟨q23, e24, hf⟩ := hf
  refine q_callIN (pc := 69) (S' := q23) mX4_init dX9_init_69 kX9_41 fX4_init iX4_init rfl rfl ⟨by decide, by decide⟩ (Nat.le_of_ble_eq_true rfl) (mc1 := 1) (ms1 := 4) (mc2 := 33) (ms2 := 2462) (by decide) (by decide) (C_X4_init (oNew S21 (.inr (4, dfX4))) S21.1 q23 e24 (qR_mk _ _)) ?_
  replace hf := obind hf
  obtain ⟨S25, e26, hf⟩ := hf
  refine q_putAF (pc := 72) dX9_init_72 pX9_42 (Or.inl ⟨_, rfl⟩) rfl e26 ?_
  refine r_aload_n (pc := 75) dX9_init_75 rfl ?_
  refine r_new (pc := 76) 1 tyX1 dX9_init_76 rfl uX1 tyX1_ok nX9_46.1 nX9_46.2.1 nX9_46.2.2 (mc2 := 32) (ms2 := 2456) (by decide) (by decide) dfX1_ok ?_
  change gW _ _ _ _ _ (oNew S25 (.inr (1, dfX1))).1 (oNew S25 (.inr (1, dfX1))).2 _ _ _
  refine r_dup (pc := 79) dX9_init_79 rfl ?_
  replace hf := obind hf
  obtain ⟨q27, e28, hf⟩ := hf
  refine q_callIN (pc := 80) (S' := q27) mX1_init dX9_init_80 kX9_48 fX1_init iX1_init rfl rfl ⟨by decide, by decide⟩ (Nat.le_of_ble_eq_true rfl) (mc1 := 5) (ms1 := 70) (mc2 := 27) (ms2 := 2386) (by decide) (by decide) (C_X1_init (oNew S25 (.inr (1, dfX1))) S25.1 q27 e28 (qR_mk _ _)) ?_
  replace hf := obind hf
  obtain ⟨S29, e30, hf⟩ := hf
  refine q_putA (pc := 83) dX9_init_83 pX9_49 (Or.inl ⟨_, rfl⟩) e30 ?_
  refine r_aload_n (pc := 86) dX9_init_86 rfl ?_
  refine r_new (pc := 87) 1 tyX1 dX9_init_87 rfl uX1 tyX1_ok nX9_46.1 nX9_46.2.1 nX9_46.2.2 (mc2 := 26) (ms2 := 2380) (by decide) (by decide) dfX1_ok ?_
  change gW _ _ _ _ _ (oNew S29 (.inr (1, dfX1))).1 (oNew S29 (.inr (1, dfX1))).2 _ _ _
  refine r_dup (pc := 90) dX9_init_90 rfl ?_
  replace hf := obind hf
  obtain ⟨q31, e32, hf⟩ := hf
  refine q_callIN (pc := 91) (S' := q31) mX1_init dX9_init_91 kX9_48 fX1_init iX1_init rfl rfl ⟨by decide, by decide⟩ (Nat.le_of_ble_eq_true rfl) (mc1 := 5) (ms1 := 70) (mc2 := 21) (ms2 := 2310) (by decide) (by decide) (C_X1_init (oNew S29 (.inr (1, dfX1))) S29.1 q31 e32 (qR_mk _ _)) ?_
  replace hf := obind hf
  obtain ⟨S33, e34, hf⟩ := hf
  refine q_putA (pc := 94) dX9_init_94 pX9_53 (Or.inl ⟨_, rfl⟩) e34 ?_
  refine r_aload_n (pc := 97) dX9_init_97 rfl ?_
  refine r_new (pc := 98) 5 tyX5 dX9_init_98 rfl uX5 tyX5_ok nX9_56.1 nX9_56.2.1 nX9_56.2.2 (mc2 := 20) (ms2 := 2304) (by decide) (by decide) dfX5_ok ?_
  change gW _ _ _ _ _ (oNew S33 (.inr (5, dfX5))).1 (oNew S33 (.inr (5, dfX5))).2 _ _ _
  refine r_dup (pc := 101) dX9_init_101 rfl ?_
  replace hf := obind hf
  obtain ⟨q35, e36, hf⟩ := hf
  refine q_callIN (pc := 102) (S' := q35) mX5_init dX9_init_102 kX9_58 fX5_init iX5_init rfl rfl ⟨by decide, by decide⟩ (Nat.le_of_ble_eq_true rfl) (mc1 := 5) (ms1 := 1505) (mc2 := 15) (ms2 := 799) (by decide) (by decide) (C_X5_init (oNew S33 (.inr (5, dfX5))) S33.1 q35 e36 (qR_mk _ _)) ?_
  replace hf := obind hf
  obtain ⟨S37, e38, hf⟩ := hf
  refine q_putAF (pc := 105) dX9_init_105 pX9_59 (Or.inl ⟨_, rfl⟩) rfl e38 ?_
  refine r_aload_n (pc := 108) dX9_init_108 rfl ?_
  refine r_new (pc := 109) 7 tyX7 dX9_init_109 rfl uX7 tyX7_ok nX9_63.1 nX9_63.2.1 nX9_63.2.2 (mc2 := 14) (ms2 := 796) (by decide) (by decide) dfX7_ok ?_
  change gW _ _ _ _ _ (oNew S37 (.inr (7, dfX7))).1 (oNew S37 (.inr (7, dfX7))).2 _ _ _
  refine r_dup (pc := 112) dX9_init_112 rfl ?_
  replace hf := obind hf
  obtain ⟨q39, e40, hf⟩ := hf
  refine q_callIN (pc := 113) (S' := q39) mX7_init dX9_init_113 kX9_65 fX7_init iX7_init rfl rfl ⟨by decide, by decide⟩ (Nat.le_of_ble_eq_true rfl) (mc1 := 1) (ms1 := 80) (mc2 := 13) (ms2 := 716) (by decide) (by decide) (C_X7_init (oNew S37 (.inr (7, dfX7))) S37.1 q39 e40 (qR_mk _ _)) ?_
  replace hf := obind hf
  obtain ⟨S41, e42, hf⟩ := hf
  refine q_putAF (pc := 116) dX9_init_116 pX9_66 (Or.inl ⟨_, rfl⟩) rfl e42 ?_
  refine r_aload_n (pc := 119) dX9_init_119 rfl ?_
  refine r_new (pc := 120) 2 tyX2 dX9_init_120 rfl uX2 tyX2_ok nX9_70.1 nX9_70.2.1 nX9_70.2.2 (mc2 := 12) (ms2 := 707) (by decide) (by decide) dfX2_ok ?_
  change gW _ _ _ _ _ (oNew S41 (.inr (2, dfX2))).1 (oNew S41 (.inr (2, dfX2))).2 _ _ _
  refine r_dup (pc := 123) dX9_init_123 rfl ?_
  replace hf := obind hf
  obtain ⟨q43, e44, hf⟩ := hf
  refine q_callIN (pc := 124) (S' := q43) mX2_init dX9_init_124 kX9_72 fX2_init iX2_init rfl rfl ⟨by decide, by decide⟩ (Nat.le_of_ble_eq_true rfl) (mc1 := 8) (ms1 := 680) (mc2 := 4) (ms2 := 27) (by decide) (by decide) (C_X2_init (oNew S41 (.inr (2, dfX2))) S41.1 q43 e44 (qR_mk _ _)) ?_
  replace hf := obind hf
  obtain ⟨S45, e46, hf⟩ := hf
  refine q_putAF (pc := 127) dX9_init_127 pX9_73 (Or.inl ⟨_, rfl⟩) rfl e46 ?_
  refine r_aload_n (pc := 130) dX9_init_130 rfl ?_
  refine r_new (pc := 131) 0 tyX0 dX9_init_131 rfl uX0 tyX0_ok nX9_77.1 nX9_77.2.1 nX9_77.2.2 (mc2 := 3) (ms2 := 25) (by decide) (by decide) dfX0_ok ?_
  change gW _ _ _ _ _ (oNew S45 (.inr (0, dfX0))).1 (oNew S45 (.inr (0, dfX0))).2 _ _ _
  refine r_dup (pc := 134) dX9_init_134 rfl ?_
  replace hf := obind hf
  obtain ⟨q47, e48, hf⟩ := hf
  refine q_callIN (pc := 135) (S' := q47) mX0_init dX9_init_135 kX9_79 fX0_init iX0_init rfl rfl ⟨by decide, by decide⟩ (Nat.le_of_ble_eq_true rfl) (mc1 := 1) (ms1 := 3) (mc2 := 2) (ms2 := 22) (by decide) (by decide) (C_X0_init (oNew S45 (.inr (0, dfX0))) S45.1 q47 e48 (qR_mk _ _)) ?_
  replace hf := obind hf
  obtain ⟨S49, e50, hf⟩ := hf
  refine q_putAF (pc := 138) dX9_init_138 pX9_80 (Or.inl ⟨_, rfl⟩) rfl e50 ?_
  refine r_aload_n (pc := 141) dX9_init_141 rfl ?_
  refine r_bipush (pc := 142) (10 : Int32) dX9_init_142 (by decide) ?_
  refine r_newa (pc := 144) .char .char (10, .inl (fun _ => 0)) dX9_init_144 rfl (by decide) k_arr_char (fun _ => rfl) (fun _ => rfl) (by decide) (by decide) (by decide) (mc2 := 1) (ms2 := 12) (by decide) (by decide) ?_
  change gW _ _ _ _ _ (oNew S49 (.inl (.char, 10, .inl (fun _ => 0)))).1 (oNew S49 (.inl (.char, 10, .inl (fun _ => 0)))).2 _ _ _
  replace hf := obind hf
  obtain ⟨S51, e52, hf⟩ := hf
  refine q_putAF (pc := 146) dX9_init_146 pX9_84 (Or.inr ⟨_, rfl⟩) rfl e52 ?_
  refine r_aload_n (pc := 149) dX9_init_149 rfl ?_
  refine r_bipush (pc := 150) (12 : Int32) dX9_init_150 (by decide) ?_
  refine r_newa (pc := 152) .int .int (12, .inl (fun _ => 0)) dX9_init_152 rfl (by decide) k_arr_int (fun _ => rfl) (fun _ => rfl) (by decide) (by decide) (by decide) (mc2 := 0) (ms2 := 0) (by decide) (by decide) ?_
  change gW _ _ _ _ _ (oNew S51 (.inl (.int, 12, .inl (fun _ => 0)))).1 (oNew S51 (.inl (.int, 12, .inl (fun _ => 0)))).2 _ _ _
  replace hf := obind hf
  obtain ⟨S53, e54, hf⟩ := hf
  refine q_putAF (pc := 154) dX9_init_154 pX9_88 (Or.inr ⟨_, rfl⟩) rfl e54 ?_
  refine r_aload_n (pc := 157) dX9_init_157 rfl ?_
  refine r_ldc (pc := 158) dX9_init_158 kX9_92 ?_
  replace hf := obind hf
  obtain ⟨S55, e56, hf⟩ := hf
  refine q_putI (pc := 160) dX9_init_160 pX9_93 rfl e56 ?_
  refine r_return (pc := 163) dX9_init_163 rfl ?_
  cases hf
  exact hk
def F_X9_settle (S : pS) (a0 : Nat) : Option (pS) := (oF S a0 9).bind fun _ => (oGA S a0 9 3).bind fun x1 => (oGA S a0 9 0).bind fun x3 => (F_X6_measure S x1 x3).bind fun q5 => (oGA q5 a0 9 6).bind fun x7 => (oGA q5 a0 9 0).bind fun x9 => (F_X8_presentItems q5 x9).bind fun q11 => (F_X4_endUnlessAllIn q5 x7 q11).bind fun q13 => some q13
set_option maxRecDepth 100000 in
set_option maxHeartbeats 4000000 in
theorem C_X9_settle {X : pX} {Q : pO → Nat → pF → Prop} (S : pS) (a0 : Nat) (r : pS) (hf : F_X9_settle S a0 = some r) (hk : Q (.inl none) r.1 r.2) : gC X mX9_settle [.ref a0] S.1 S.2 Q 0 0 := by
  refine gC_of (by decide) (Nat.le_of_ble_eq_true rfl) rfl ?_
  change gW _ _ _ [some (.ref a0)] _ _ _ _ _ _
  unfold F_X9_settle at hf
  obtain ⟨_, _, hf⟩ := obind hf
  refine r_aload_n (pc := 0) dX9_settle_0 rfl ?_
  replace hf := obind hf
  obtain ⟨x1, e2, hf⟩ := hf
  refine q_getA (pc := 1) dX9_settle_1 gX9_25 e2 ?_
  refine r_aload_n (pc := 4) dX9_settle_4 rfl ?_
  replace hf := obind hf
  obtain ⟨x3, e4, hf⟩ := hf
  refine q_getA (pc := 5) dX9_settle_5 gX9_12 e4 ?_
  replace hf := obind hf
  obtain ⟨q5, e6, hf⟩ := hf
  refine q_callV (pc := 8) (v := none) (S' := q5) mX6_measure 6 [.ref x3] dX9_settle_8 kX9_195 fX6_measure iX6_measure ⟨by decide, by decide⟩ rfl rfl rfl (Nat.le_of_ble_eq_true rfl) (og e6) (mc1 := 0) (ms1 := 0) (mc2 := 0) (ms2 := 0) (by decide) (by decide) (C_X6_measure S x1 x3 q5 e6 (qR_mk _ _)) ?_
  refine r_aload_n (pc := 11) dX9_settle_11 rfl ?_
  replace hf := obind hf
  obtain ⟨x7, e8, hf⟩ := hf
  refine q_getA (pc := 12) dX9_settle_12 gX9_42 e8 ?_
  refine r_aload_n (pc := 15) dX9_settle_15 rfl ?_
  replace hf := obind hf
  obtain ⟨x9, e10, hf⟩ := hf
  refine q_getA (pc := 16) dX9_settle_16 gX9_12 e10 ?_
  replace hf := obind hf
  obtain ⟨q11, e12, hf⟩ := hf
  refine q_callV (pc := 19) (v := some (.long q11)) (S' := q5) mX8_presentItems 8 [] dX9_settle_19 kX9_379 fX8_presentItems iX8_presentItems ⟨by decide, by decide⟩ rfl rfl rfl (Nat.le_of_ble_eq_true rfl) (og e12) (mc1 := 0) (ms1 := 0) (mc2 := 0) (ms2 := 0) (by decide) (by decide) (C_X8_presentItems q5 x9 q11 e12 (qR_mk _ _)) ?_
  change gW _ _ _ _ (.long q11 :: _) _ _ _ _ _
  replace hf := obind hf
  obtain ⟨q13, e14, hf⟩ := hf
  refine q_callV (pc := 22) (v := none) (S' := q13) mX4_endUnlessAllIn 4 [.long q11] dX9_settle_22 kX9_424 fX4_endUnlessAllIn iX4_endUnlessAllIn ⟨by decide, by decide⟩ rfl rfl rfl (Nat.le_of_ble_eq_true rfl) (og e14) (mc1 := 0) (ms1 := 0) (mc2 := 0) (ms2 := 0) (by decide) (by decide) (C_X4_endUnlessAllIn q5 x7 q11 q13 e14 (qR_mk _ _)) ?_
  refine r_return (pc := 25) dX9_settle_25 rfl ?_
  cases hf
  exact hk
def F_X9_clear (S : pS) (a0 : Nat) : Option (Int32 × pS) := (oF S a0 9).bind fun _ => (oGA S a0 9 0).bind fun x1 => (F_X8_countItems S x1).bind fun q3 => (oGA S a0 9 0).bind fun x5 => (F_X8_reset S x5).bind fun q7 => (oGA q7 a0 9 5).bind fun x9 => (F_X3_forget q7 x9).bind fun q11 => (oGA q11 a0 9 6).bind fun x13 => (F_X4_endAll q11 x13).bind fun q15 => (oGA q15 a0 9 7).bind fun x17 => (F_X1_forget q15 x17).bind fun q19 => (F_X9_settle q19 a0).bind fun q21 => some (q3, q21)
set_option maxRecDepth 100000 in
set_option maxHeartbeats 4000000 in
theorem C_X9_clear {X : pX} {Q : pO → Nat → pF → Prop} (S : pS) (a0 : Nat) (r : Int32 × pS) (hf : F_X9_clear S a0 = some r) (hk : Q (.inl (some (.int r.1))) r.2.1 r.2.2) : gC X mX9_clear [.ref a0] S.1 S.2 Q 0 0 := by
  refine gC_of (by decide) (Nat.le_of_ble_eq_true rfl) rfl ?_
  change gW _ _ _ [some (.ref a0), none] _ _ _ _ _ _
  unfold F_X9_clear at hf
  obtain ⟨_, _, hf⟩ := obind hf
  refine r_aload_n (pc := 0) dX9_clear_0 rfl ?_
  replace hf := obind hf
  obtain ⟨x1, e2, hf⟩ := hf
  refine q_getA (pc := 1) dX9_clear_1 gX9_12 e2 ?_
  replace hf := obind hf
  obtain ⟨q3, e4, hf⟩ := hf
  refine q_callV (pc := 4) (v := some (.int q3)) (S' := S) mX8_countItems 8 [] dX9_clear_4 kX9_97 fX8_countItems iX8_countItems ⟨by decide, by decide⟩ rfl rfl rfl (Nat.le_of_ble_eq_true rfl) (og e4) (mc1 := 0) (ms1 := 0) (mc2 := 0) (ms2 := 0) (by decide) (by decide) (C_X8_countItems S x1 q3 e4 (qR_mk _ _)) ?_
  change gW _ _ _ _ (.int q3 :: _) _ _ _ _ _
  refine r_istore_n (pc := 7) dX9_clear_7 (by decide) ?_
  change gW _ _ _ [some (.ref a0), some (.int q3)] _ _ _ _ _ _
  refine r_aload_n (pc := 8) dX9_clear_8 rfl ?_
  replace hf := obind hf
  obtain ⟨x5, e6, hf⟩ := hf
  refine q_getA (pc := 9) dX9_clear_9 gX9_12 e6 ?_
  replace hf := obind hf
  obtain ⟨q7, e8, hf⟩ := hf
  refine q_callV (pc := 12) (v := none) (S' := q7) mX8_reset 8 [] dX9_clear_12 kX9_101 fX8_reset iX8_reset ⟨by decide, by decide⟩ rfl rfl rfl (Nat.le_of_ble_eq_true rfl) (og e8) (mc1 := 0) (ms1 := 0) (mc2 := 0) (ms2 := 0) (by decide) (by decide) (C_X8_reset S x5 q7 e8 (qR_mk _ _)) ?_
  refine r_aload_n (pc := 15) dX9_clear_15 rfl ?_
  replace hf := obind hf
  obtain ⟨x9, e10, hf⟩ := hf
  refine q_getA (pc := 16) dX9_clear_16 gX9_35 e10 ?_
  replace hf := obind hf
  obtain ⟨q11, e12, hf⟩ := hf
  refine q_callV (pc := 19) (v := none) (S' := q11) mX3_forget 3 [] dX9_clear_19 kX9_104 fX3_forget iX3_forget ⟨by decide, by decide⟩ rfl rfl rfl (Nat.le_of_ble_eq_true rfl) (og e12) (mc1 := 0) (ms1 := 0) (mc2 := 0) (ms2 := 0) (by decide) (by decide) (C_X3_forget q7 x9 q11 e12 (qR_mk _ _)) ?_
  refine r_aload_n (pc := 22) dX9_clear_22 rfl ?_
  replace hf := obind hf
  obtain ⟨x13, e14, hf⟩ := hf
  refine q_getA (pc := 23) dX9_clear_23 gX9_42 e14 ?_
  replace hf := obind hf
  obtain ⟨q15, e16, hf⟩ := hf
  refine q_callV (pc := 26) (v := none) (S' := q15) mX4_endAll 4 [] dX9_clear_26 kX9_107 fX4_endAll iX4_endAll ⟨by decide, by decide⟩ rfl rfl rfl (Nat.le_of_ble_eq_true rfl) (og e16) (mc1 := 0) (ms1 := 0) (mc2 := 0) (ms2 := 0) (by decide) (by decide) (C_X4_endAll q11 x13 q15 e16 (qR_mk _ _)) ?_
  refine r_aload_n (pc := 29) dX9_clear_29 rfl ?_
  replace hf := obind hf
  obtain ⟨x17, e18, hf⟩ := hf
  refine q_getA (pc := 30) dX9_clear_30 gX9_49 e18 ?_
  replace hf := obind hf
  obtain ⟨q19, e20, hf⟩ := hf
  refine q_callV (pc := 33) (v := none) (S' := q19) mX1_forget 1 [] dX9_clear_33 kX9_110 fX1_forget iX1_forget ⟨by decide, by decide⟩ rfl rfl rfl (Nat.le_of_ble_eq_true rfl) (og e20) (mc1 := 0) (ms1 := 0) (mc2 := 0) (ms2 := 0) (by decide) (by decide) (C_X1_forget q15 x17 q19 e20 (qR_mk _ _)) ?_
  refine r_aload_n (pc := 36) dX9_clear_36 rfl ?_
  replace hf := obind hf
  obtain ⟨q21, e22, hf⟩ := hf
  refine q_callV (pc := 37) (v := none) (S' := q21) mX9_settle 9 [] dX9_clear_37 kX9_111 fX9_settle iX9_settle ⟨by decide, by decide⟩ rfl rfl rfl (Nat.le_of_ble_eq_true rfl) (og e22) (mc1 := 0) (ms1 := 0) (mc2 := 0) (ms2 := 0) (by decide) (by decide) (C_X9_settle q19 a0 q21 e22 (qR_mk _ _)) ?_
  refine r_iload_n (pc := 40) dX9_clear_40 rfl ?_
  refine r_ireturn (pc := 41) .int dX9_clear_41 rfl rfl ?_
  cases hf
  exact hk
abbrev L_X9_append_5 (l0 : Nat) (l1 : Int32) (S : pS) : Int32 × Int32 → List (Option Value) := fun a => [some (.ref l0), some (.int l1), some (.int a.1), some (.int a.2), none]
abbrev s_X9_append_5 (l0 : Nat) (l1 : Int32) (S : pS) : Int32 × Int32 → pS := fun a => S
abbrev K_X9_append_5 (X : pX) (Q : pO → Nat → pF → Prop) (mc ms : Nat) (l0 : Nat) (l1 : Int32) (S : pS) : (Unit) ⊕ (Int32) → Prop := (Sum.elim (fun b => gW X mX9_append 37 [some (.ref l0), some (.int l1), none, none, none] [] S.1 S.2 Q mc ms) (fun b => gW X mX9_append 56 [some (.ref l0), some (.int l1), some (.int b), none, none] [] S.1 S.2 Q mc ms))
def F_X9_append_5 (l0 : Nat) (l1 : Int32) (S : pS) : Int32 × Int32 → Option ((Int32 × Int32) ⊕ ((Unit) ⊕ (Int32))) := fun a => if a.2 < 0 then (some (.inr (.inr a.1))) else (if (((l1.toUInt32 >>> (a.2.toUInt32 &&& Int32.toUInt32 31)).toInt32) &&& (255 : Int32)) = 0 then (some (.inl (a.1, a.2 + (-8 : Int32)))) else (if (((l1.toUInt32 >>> (a.2.toUInt32 &&& Int32.toUInt32 31)).toInt32) &&& (255 : Int32)) < (32 : Int32) then (some (.inr (.inl ()))) else (if (((l1.toUInt32 >>> (a.2.toUInt32 &&& Int32.toUInt32 31)).toInt32) &&& (255 : Int32)) ≤ (126 : Int32) then (some (.inl (a.1 + (1 : Int32), a.2 + (-8 : Int32)))) else (some (.inr (.inl ()))))))
set_option maxRecDepth 100000 in
set_option maxHeartbeats 4000000 in
theorem W_X9_append_5 {X : pX} {Q : pO → Nat → pF → Prop} {mc ms : Nat} (l0 : Nat) (l1 : Int32) (S : pS) : ∀ (a : Int32 × Int32) (r : (Int32 × Int32) ⊕ ((Unit) ⊕ (Int32))), F_X9_append_5 l0 l1 S a = some r → Sum.elim (fun a' => gW X mX9_append 5 (L_X9_append_5 l0 l1 S a') [] (s_X9_append_5 l0 l1 S a').1 (s_X9_append_5 l0 l1 S a').2 Q mc ms) (K_X9_append_5 X Q mc ms l0 l1 S) r → gW X mX9_append 5 (L_X9_append_5 l0 l1 S a) [] (s_X9_append_5 l0 l1 S a).1 (s_X9_append_5 l0 l1 S a).2 Q mc ms := by
  intro a r hf hk
  obtain ⟨l2, l3⟩ := a
  unfold F_X9_append_5 at hf
  try dsimp only at hf
  change gW _ _ _ [some (.ref l0), some (.int l1), some (.int l2), some (.int l3), none] _ S.1 S.2 _ _ _
  refine r_iload_n (pc := 5) dX9_append_5 rfl ?_
  refine r_if_lt (pc := 6) 56 dX9_append_6 (by decide) (fun hc => ?_) (fun hc => ?_)
  · rw [if_pos hc] at hf
    cases hf
    exact gW.weak (by simp [gle]) hk
  · rw [if_neg hc] at hf
    refine r_iload_n (pc := 9) dX9_append_9 rfl ?_
    refine r_iload_n (pc := 10) dX9_append_10 rfl ?_
    refine r_iushr (pc := 11) dX9_append_11 ?_
    refine r_sipush (pc := 12) (255 : Int32) dX9_append_12 (by decide) ?_
    refine r_iand (pc := 15) dX9_append_15 ?_
    refine r_istore (pc := 16) dX9_append_16 (by decide) ?_
    change gW _ _ _ [some (.ref l0), some (.int l1), some (.int l2), some (.int l3), some (.int (((l1.toUInt32 >>> (l3.toUInt32 &&& Int32.toUInt32 31)).toInt32) &&& (255 : Int32)))] _ _ _ _ _ _
    refine r_iload (pc := 18) dX9_append_18 rfl ?_
    refine r_if_eq (pc := 20) 50 dX9_append_20 (by decide) (fun hc => ?_) (fun hc => ?_)
    · rw [if_pos hc] at hf
      refine r_iinc (pc := 50) dX9_append_50 rfl (by decide) ?_
      change gW _ _ _ [some (.ref l0), some (.int l1), some (.int l2), some (.int (l3 + (-8 : Int32))), some (.int (((l1.toUInt32 >>> (l3.toUInt32 &&& Int32.toUInt32 31)).toInt32) &&& (255 : Int32)))] _ _ _ _ _ _
      refine r_goto (pc := 53) 5 dX9_append_53 (by decide) ?_
      cases hf
      exact gW.weak (by simp [gle]) hk
    · rw [if_neg hc] at hf
      refine r_iload (pc := 23) dX9_append_23 rfl ?_
      refine r_bipush (pc := 25) (32 : Int32) dX9_append_25 (by decide) ?_
      refine r_icmp_lt (pc := 27) 37 dX9_append_27 (by decide) (fun hc => ?_) (fun hc => ?_)
      · rw [if_pos hc] at hf
        cases hf
        exact gW.weak (by simp [gle]) hk
      · rw [if_neg hc] at hf
        refine r_iload (pc := 30) dX9_append_30 rfl ?_
        refine r_bipush (pc := 32) (126 : Int32) dX9_append_32 (by decide) ?_
        refine r_icmp_le (pc := 34) 47 dX9_append_34 (by decide) (fun hc => ?_) (fun hc => ?_)
        · rw [if_pos hc] at hf
          refine r_iinc (pc := 47) dX9_append_47 rfl (by decide) ?_
          change gW _ _ _ [some (.ref l0), some (.int l1), some (.int (l2 + (1 : Int32))), some (.int l3), some (.int (((l1.toUInt32 >>> (l3.toUInt32 &&& Int32.toUInt32 31)).toInt32) &&& (255 : Int32)))] _ _ _ _ _ _
          refine r_iinc (pc := 50) dX9_append_50 rfl (by decide) ?_
          change gW _ _ _ [some (.ref l0), some (.int l1), some (.int (l2 + (1 : Int32))), some (.int (l3 + (-8 : Int32))), some (.int (((l1.toUInt32 >>> (l3.toUInt32 &&& Int32.toUInt32 31)).toInt32) &&& (255 : Int32)))] _ _ _ _ _ _
          refine r_goto (pc := 53) 5 dX9_append_53 (by decide) ?_
          cases hf
          exact gW.weak (by simp [gle]) hk
        · rw [if_neg hc] at hf
          cases hf
          exact gW.weak (by simp [gle]) hk
def F_X9_append_37 (S : pS) : Option ((Int32 × pS) ⊕ (String × pS)) := some (.inr ("java/lang/IllegalArgumentException", S))
set_option maxRecDepth 100000 in
set_option maxHeartbeats 4000000 in
theorem W_X9_append_37 {X : pX} {Q : pO → Nat → pF → Prop} (S : pS) (r : (Int32 × pS) ⊕ (String × pS)) (hf : F_X9_append_37 S = some r) (hk : Sum.elim (fun q => Q (.inl (some (.int q.1))) q.2.1 q.2.2) (fun q => ∀ n', q.2.1 ≤ n' → Q (.inr q.1) n' (gjunk q.2.2 q.2.1)) r) : gW X mX9_append 37 [none, none, none, none, none] [] S.1 S.2 Q 1 6 := by
  unfold F_X9_append_37 at hf
  refine r_throw (pc := 37) "java/lang/IllegalArgumentException" 8 dX9_append_37 dX9_append_40 dX9_append_41 dX9_append_43 dX9_append_46 xX9_114_118 rfl ⟨by decide, Nat.le_of_ble_eq_true rfl⟩ (by decide) (by decide) ?_
  cases hf
  exact hk
abbrev L_X9_append_80 (l0 : Nat) (l1 : Int32) : Int32 × pS → List (Option Value) := fun a => [some (.ref l0), some (.int l1), none, some (.int a.1), none]
abbrev s_X9_append_80 (l0 : Nat) (l1 : Int32) : Int32 × pS → pS := fun a => a.2
abbrev K_X9_append_80 (X : pX) (Q : pO → Nat → pF → Prop) (mc ms : Nat) (l0 : Nat) (l1 : Int32) : pS → Prop := (fun b => gW X mX9_append 114 [some (.ref l0), some (.int l1), none, none, none] [] b.1 b.2 Q mc ms)
def F_X9_append_80 (l0 : Nat) (l1 : Int32) : Int32 × pS → Option ((Int32 × pS) ⊕ (pS)) := fun a => if a.1 < 0 then (some (.inr a.2)) else (if (((l1.toUInt32 >>> (a.1.toUInt32 &&& Int32.toUInt32 31)).toInt32) &&& (255 : Int32)) = 0 then (some (.inl (a.1 + (-8 : Int32), a.2))) else ((oGA a.2 l0 9 10).bind fun x8 => (F_X7_put a.2 x8 (((((l1.toUInt32 >>> (a.1.toUInt32 &&& Int32.toUInt32 31)).toInt32) &&& (255 : Int32)).toUInt32 % 65536).toInt32)).bind fun q10 => some (.inl (a.1 + (-8 : Int32), q10))))
set_option maxRecDepth 100000 in
set_option maxHeartbeats 4000000 in
theorem W_X9_append_80 {X : pX} {Q : pO → Nat → pF → Prop} {mc ms : Nat} (l0 : Nat) (l1 : Int32) : ∀ (a : Int32 × pS) (r : (Int32 × pS) ⊕ (pS)), F_X9_append_80 l0 l1 a = some r → Sum.elim (fun a' => gW X mX9_append 80 (L_X9_append_80 l0 l1 a') [] (s_X9_append_80 l0 l1 a').1 (s_X9_append_80 l0 l1 a').2 Q mc ms) (K_X9_append_80 X Q mc ms l0 l1) r → gW X mX9_append 80 (L_X9_append_80 l0 l1 a) [] (s_X9_append_80 l0 l1 a).1 (s_X9_append_80 l0 l1 a).2 Q mc ms := by
  intro a r hf hk
  obtain ⟨l3, S⟩ := a
  unfold F_X9_append_80 at hf
  try dsimp only at hf
  change gW _ _ _ [some (.ref l0), some (.int l1), none, some (.int l3), none] _ S.1 S.2 _ _ _
  refine r_iload_n (pc := 80) dX9_append_80 rfl ?_
  refine r_if_lt (pc := 81) 114 dX9_append_81 (by decide) (fun hc => ?_) (fun hc => ?_)
  · rw [if_pos hc] at hf
    cases hf
    exact gW.weak (by simp [gle]) hk
  · rw [if_neg hc] at hf
    refine r_iload_n (pc := 84) dX9_append_84 rfl ?_
    refine r_iload_n (pc := 85) dX9_append_85 rfl ?_
    refine r_iushr (pc := 86) dX9_append_86 ?_
    refine r_sipush (pc := 87) (255 : Int32) dX9_append_87 (by decide) ?_
    refine r_iand (pc := 90) dX9_append_90 ?_
    refine r_istore (pc := 91) dX9_append_91 (by decide) ?_
    change gW _ _ _ [some (.ref l0), some (.int l1), none, some (.int l3), some (.int (((l1.toUInt32 >>> (l3.toUInt32 &&& Int32.toUInt32 31)).toInt32) &&& (255 : Int32)))] _ _ _ _ _ _
    refine r_iload (pc := 93) dX9_append_93 rfl ?_
    refine r_if_eq (pc := 95) 108 dX9_append_95 (by decide) (fun hc => ?_) (fun hc => ?_)
    · rw [if_pos hc] at hf
      refine r_iinc (pc := 108) dX9_append_108 rfl (by decide) ?_
      change gW _ _ _ [some (.ref l0), some (.int l1), none, some (.int (l3 + (-8 : Int32))), some (.int (((l1.toUInt32 >>> (l3.toUInt32 &&& Int32.toUInt32 31)).toInt32) &&& (255 : Int32)))] _ _ _ _ _ _
      refine r_goto (pc := 111) 80 dX9_append_111 (by decide) ?_
      cases hf
      exact gW.weak (by simp [gle]) hk
    · rw [if_neg hc] at hf
      refine r_aload_n (pc := 98) dX9_append_98 rfl ?_
      replace hf := obind hf
      obtain ⟨x8, e9, hf⟩ := hf
      refine q_getA (pc := 99) dX9_append_99 gX9_66 e9 ?_
      refine r_iload (pc := 102) dX9_append_102 rfl ?_
      refine r_i2c (pc := 104) dX9_append_104 ?_
      replace hf := obind hf
      obtain ⟨q10, e11, hf⟩ := hf
      refine q_callV (pc := 105) (v := none) (S' := q10) mX7_put 7 [.int (((((l1.toUInt32 >>> (l3.toUInt32 &&& Int32.toUInt32 31)).toInt32) &&& (255 : Int32)).toUInt32 % 65536).toInt32)] dX9_append_105 kX9_130 fX7_put iX7_put ⟨by decide, by decide⟩ rfl rfl rfl (Nat.le_of_ble_eq_true rfl) (og e11) (mc1 := 0) (ms1 := 0) (mc2 := mc) (ms2 := ms) (by omega) (by omega) (C_X7_put S x8 (((((l1.toUInt32 >>> (l3.toUInt32 &&& Int32.toUInt32 31)).toInt32) &&& (255 : Int32)).toUInt32 % 65536).toInt32) q10 e11 (qR_mk _ _)) ?_
      refine r_iinc (pc := 108) dX9_append_108 rfl (by decide) ?_
      change gW _ _ _ [some (.ref l0), some (.int l1), none, some (.int (l3 + (-8 : Int32))), some (.int (((l1.toUInt32 >>> (l3.toUInt32 &&& Int32.toUInt32 31)).toInt32) &&& (255 : Int32)))] _ _ _ _ _ _
      refine r_goto (pc := 111) 80 dX9_append_111 (by decide) ?_
      cases hf
      exact gW.weak (by simp [gle]) hk
def F_X9_append (S : pS) (a0 : Nat) (a1 : Int32) : Option ((Int32 × pS) ⊕ (String × pS)) := (oF S a0 9).bind fun _ => (iter (F_X9_append_5 a0 a1 S) fu ((0 : Int32), (24 : Int32))).bind fun r1 => Sum.elim (fun q3 => F_X9_append_37 S) (fun q3 => (oGA S a0 9 10).bind fun x4 => (F_X7_hasRoomFor S x4 q3).bind fun q6 => if ¬ q6 = 0 then ((iter (F_X9_append_80 a0 a1) fu ((24 : Int32), S)).bind fun r12 => (oGA r12 a0 9 10).bind fun x14 => (F_X7_size r12 x14).bind fun q16 => some (.inl (q16, r12))) else (some (.inr ("java/lang/IllegalStateException", S)))) r1
set_option maxRecDepth 100000 in
set_option maxHeartbeats 4000000 in
theorem C_X9_append {X : pX} {Q : pO → Nat → pF → Prop} (S : pS) (a0 : Nat) (a1 : Int32) (r : (Int32 × pS) ⊕ (String × pS)) (hf : F_X9_append S a0 a1 = some r) (hk : Sum.elim (fun q => Q (.inl (some (.int q.1))) q.2.1 q.2.2) (fun q => ∀ n', q.2.1 ≤ n' → Q (.inr q.1) n' (gjunk q.2.2 q.2.1)) r) : gC X mX9_append [.ref a0, .int a1] S.1 S.2 Q 1 6 := by
  refine gC_of (by decide) (Nat.le_of_ble_eq_true rfl) rfl ?_
  change gW _ _ _ [some (.ref a0), some (.int a1), none, none, none] _ _ _ _ _ _
  unfold F_X9_append at hf
  obtain ⟨_, _, hf⟩ := obind hf
  refine r_iconst (pc := 0) (0 : Int32) dX9_append_0 (by decide) ?_
  refine r_istore_n (pc := 1) dX9_append_1 (by decide) ?_
  change gW _ _ _ [some (.ref a0), some (.int a1), some (.int (0 : Int32)), none, none] _ _ _ _ _ _
  refine r_bipush (pc := 2) (24 : Int32) dX9_append_2 (by decide) ?_
  refine r_istore_n (pc := 4) dX9_append_4 (by decide) ?_
  change gW _ _ _ [some (.ref a0), some (.int a1), some (.int (0 : Int32)), some (.int (24 : Int32)), none] _ _ _ _ _ _
  replace hf := obind hf
  obtain ⟨r1, e2, hf⟩ := hf
  refine gW.weak (ls' := [some (.ref a0), some (.int a1), some (.int (0 : Int32)), some (.int (24 : Int32)), none]) (by simp [gle]) ?_
  refine g_iter (L := L_X9_append_5 a0 a1 S) (s := s_X9_append_5 a0 a1 S) (K := K_X9_append_5 X Q _ _ a0 a1 S) (W_X9_append_5 a0 a1 S) fu ((0 : Int32), (24 : Int32)) _ e2 ?_
  rcases r1 with q3 | q3
  · simp only [Sum.elim_inl, Sum.elim_inr] at hf
    show gW _ _ 37 [some (.ref a0), some (.int a1), none, none, none] [] S.1 S.2 _ _ _
    refine gW.mono (mc := 1) (ms := 6) ?_ (fun _ _ _ q => q) (by decide) (by decide)
    exact gW.weak (by simp [gle]) (W_X9_append_37 S r hf hk)
  · simp only [Sum.elim_inl, Sum.elim_inr] at hf
    show gW _ _ 56 [some (.ref a0), some (.int a1), some (.int q3), none, none] [] S.1 S.2 _ _ _
    refine r_aload_n (pc := 56) dX9_append_56 rfl ?_
    replace hf := obind hf
    obtain ⟨x4, e5, hf⟩ := hf
    refine q_getA (pc := 57) dX9_append_57 gX9_66 e5 ?_
    refine r_iload_n (pc := 60) dX9_append_60 rfl ?_
    replace hf := obind hf
    obtain ⟨q6, e7, hf⟩ := hf
    refine q_callV (pc := 61) (v := some (.int q6)) (S' := S) mX7_hasRoomFor 7 [.int q3] dX9_append_61 kX9_121 fX7_hasRoomFor iX7_hasRoomFor ⟨by decide, by decide⟩ rfl rfl rfl (Nat.le_of_ble_eq_true rfl) (og e7) (mc1 := 0) (ms1 := 0) (mc2 := 1) (ms2 := 6) (by decide) (by decide) (C_X7_hasRoomFor S x4 q3 q6 e7 (qR_mk _ _)) ?_
    change gW _ _ _ _ (.int q6 :: _) _ _ _ _ _
    refine r_if_ne (pc := 64) 77 dX9_append_64 (by decide) (fun hc => ?_) (fun hc => ?_)
    · rw [if_pos hc] at hf
      refine r_bipush (pc := 77) (24 : Int32) dX9_append_77 (by decide) ?_
      refine r_istore_n (pc := 79) dX9_append_79 (by decide) ?_
      change gW _ _ _ [some (.ref a0), some (.int a1), some (.int q3), some (.int (24 : Int32)), none] _ _ _ _ _ _
      replace hf := obind hf
      obtain ⟨r12, e13, hf⟩ := hf
      refine gW.weak (ls' := [some (.ref a0), some (.int a1), none, some (.int (24 : Int32)), none]) (by simp [gle]) ?_
      refine g_iter (L := L_X9_append_80 a0 a1) (s := s_X9_append_80 a0 a1) (K := K_X9_append_80 X Q _ _ a0 a1) (W_X9_append_80 a0 a1) fu ((24 : Int32), S) _ e13 ?_
      show gW _ _ 114 [some (.ref a0), some (.int a1), none, none, none] [] r12.1 r12.2 _ _ _
      refine r_aload_n (pc := 114) dX9_append_114 rfl ?_
      replace hf := obind hf
      obtain ⟨x14, e15, hf⟩ := hf
      refine q_getA (pc := 115) dX9_append_115 gX9_66 e15 ?_
      replace hf := obind hf
      obtain ⟨q16, e17, hf⟩ := hf
      refine q_callV (pc := 118) (v := some (.int q16)) (S' := r12) mX7_size 7 [] dX9_append_118 kX9_134 fX7_size iX7_size ⟨by decide, by decide⟩ rfl rfl rfl (Nat.le_of_ble_eq_true rfl) (og e17) (mc1 := 0) (ms1 := 0) (mc2 := 0) (ms2 := 0) (by decide) (by decide) (C_X7_size r12 x14 q16 e17 (qR_mk _ _)) ?_
      change gW _ _ _ _ (.int q16 :: _) _ _ _ _ _
      refine r_ireturn (pc := 121) .int dX9_append_121 rfl rfl ?_
      cases hf
      exact hk
    · rw [if_neg hc] at hf
      refine r_throw (pc := 67) "java/lang/IllegalStateException" 9 dX9_append_67 dX9_append_70 dX9_append_71 dX9_append_73 dX9_append_76 xX9_125_129 rfl ⟨by decide, Nat.le_of_ble_eq_true rfl⟩ (by decide) (by decide) ?_
      cases hf
      exact hk
