/-! the law's loop, its start, its end -/
theorem and31 (y : Int32) : ∃ n : Nat, n < 32 ∧ y &&& 31 = Int32.ofNat n := by
  refine ⟨y.toBitVec.toNat % 32, Nat.mod_lt _ (by decide), ?_⟩
  apply Int32.toBitVec_inj.mp
  apply BitVec.eq_of_toNat_eq
  rw [Int32.toBitVec_and, BitVec.toNat_and]
  have e1 : (31 : Int32).toBitVec.toNat = 2 ^ 5 - 1 := by decide
  rw [e1, Nat.and_two_pow_sub_one_eq_mod]
  show _ = (BitVec.ofNat 32 (y.toBitVec.toNat % 32)).toNat
  rw [BitVec.toNat_ofNat]
  omega
theorem i32_lt {a b : Nat} (ha : a < 2 ^ 31) (hb : b < 2 ^ 31) : (Int32.ofNat a < Int32.ofNat b) ↔ a < b := Int32.ofNat_lt_ofNat ha hb
theorem i32_nn {a : Nat} (ha : a < 2 ^ 31) : ¬ Int32.ofNat a < 0 := by
  intro h
  have := (i32_lt (a := a) (b := 0) ha (by decide)).mp h
  omega
theorem i32_cl {a : Nat} (ha : a < 2 ^ 31) : (Int32.ofNat a).toNatClampNeg = a := Int32.toNatClampNeg_ofNat_of_lt ha
theorem i32_add (a b : Nat) : Int32.ofNat a + Int32.ofNat b = Int32.ofNat (a + b) := (Int32.ofNat_add a b).symm
theorem in_at {p d L : Nat} (hp : p + d < L) (hL : L ≤ 3072) : vp_in (Int32.ofNat p + Int32.ofNat d) L := by
  unfold vp_in
  rw [i32_add]
  have hb : p + d < 2 ^ 31 := by omega
  rw [i32_cl hb]
  intro h
  rcases h with h | h
  · exact i32_nn hb h
  · omega
theorem gt_at {p L : Nat} (hp : p ≤ 3080) (hL : L ≤ 3072) : (Int32.ofNat L - 6 < Int32.ofNat p) ↔ L < p + 6 := by
  rw [Int32.lt_iff_toInt_lt, Int32.toInt_sub]
  have e1 : (Int32.ofNat L).toInt = L := Int32.toInt_ofNat_of_lt (by omega)
  have e2 : (Int32.ofNat p).toInt = p := Int32.toInt_ofNat_of_lt (by omega)
  have e3 : (6 : Int32).toInt = 6 := by decide
  rw [e1, e2, e3, Int.bmod_eq_of_le (by omega) (by omega)]
  omega
section LAW
variable {X : pX} {Q : pO → Nat → pF → Prop}
set_option maxRecDepth 100000 in
set_option maxHeartbeats 4000000 in
theorem turn_all {S : pS} {A : As} {mc ms : Nat} {i : Int32} (h0 : vp_in i X.2.2.2.2.1) (h1 : vp_in (i + 1) X.2.2.2.2.1) (h2 : vp_in (i + 2) X.2.2.2.2.1) (h3 : vp_in (i + 3) X.2.2.2.2.1) (h4 : vp_in (i + 4) X.2.2.2.2.1) (h5 : vp_in (i + 5) X.2.2.2.2.1) (hI : LI S A)
    (kk : ∀ S2 A', LI S2 A' → gW X mL_law 2049 (lw_ls i) [] S2.1 S2.2 Q mc ms) : gW X mL_law 38 (lw_ls i) [] S.1 S.2 Q (mc + 12) (ms + 1626) := by
  refine r_xload_n (pc := 38) dL_law_38 rfl ?_
  refine r_iload (pc := 39) dL_law_39 rfl ?_
  refine r_sld (pc := 41) dL_law_41 h0 ?_
  refine r_bipush (pc := 42) (31 : Int32) dL_law_42 (by decide) ?_
  refine r_iand (pc := 44) dL_law_44 ?_
  obtain ⟨n, hn, e⟩ := and31 (X.2.2.2.2.2 i.toNatClampNeg)
  rw [e]
  by_cases c0 : n = 0
  · subst c0
    refine r_tableIn (off := 139) (pc := 45) 184 dL_law_45 (by decide) (by decide) rfl (by decide) ?_
    exact gW.mono (B_0 h1 h2 h3 h4 h5 (T_clear hI) kk) (fun _ _ _ h => h) (by omega) (by omega)
  by_cases c1 : n = 1
  · subst c1
    refine r_tableIn (off := 152) (pc := 45) 197 dL_law_45 (by decide) (by decide) rfl (by decide) ?_
    exact gW.mono (B_1 h1 h2 h3 h4 h5 (T_append hI (X.2.2.2.2.2 (i + 1).toNatClampNeg)) kk) (fun _ _ _ h => h) (by omega) (by omega)
  by_cases c2 : n = 2
  · subst c2
    refine r_tableIn (off := 208) (pc := 45) 253 dL_law_45 (by decide) (by decide) rfl (by decide) ?_
    exact gW.mono (B_2 h1 h2 h3 h4 h5 (T_add hI (X.2.2.2.2.2 (i + 1).toNatClampNeg) (X.2.2.2.2.2 (i + 2).toNatClampNeg)) kk) (fun _ _ _ h => h) (by omega) (by omega)
  by_cases c3 : n = 3
  · subst c3
    refine r_tableIn (off := 276) (pc := 45) 321 dL_law_45 (by decide) (by decide) rfl (by decide) ?_
    exact gW.mono (B_3 h1 h2 h3 h4 h5 (T_clone hI (X.2.2.2.2.2 (i + 1).toNatClampNeg) (X.2.2.2.2.2 (i + 2).toNatClampNeg) (X.2.2.2.2.2 (i + 3).toNatClampNeg)) kk) (fun _ _ _ h => h) (by omega) (by omega)
  by_cases c4 : n = 4
  · subst c4
    refine r_tableIn (off := 356) (pc := 45) 401 dL_law_45 (by decide) (by decide) rfl (by decide) ?_
    exact gW.mono (B_4 h1 h2 h3 h4 h5 (T_detach hI (X.2.2.2.2.2 (i + 1).toNatClampNeg) (X.2.2.2.2.2 (i + 2).toNatClampNeg)) kk) (fun _ _ _ h => h) (by omega) (by omega)
  by_cases c5 : n = 5
  · subst c5
    refine r_tableIn (off := 424) (pc := 45) 469 dL_law_45 (by decide) (by decide) rfl (by decide) ?_
    exact gW.mono (B_5 h1 h2 h3 h4 h5 (T_moveBlock hI (X.2.2.2.2.2 (i + 1).toNatClampNeg) (X.2.2.2.2.2 (i + 2).toNatClampNeg) (X.2.2.2.2.2 (i + 3).toNatClampNeg) (X.2.2.2.2.2 (i + 4).toNatClampNeg) (X.2.2.2.2.2 (i + 5).toNatClampNeg)) kk) (fun _ _ _ h => h) (by omega) (by omega)
  by_cases c6 : n = 6
  · subst c6
    refine r_tableIn (off := 528) (pc := 45) 573 dL_law_45 (by decide) (by decide) rfl (by decide) ?_
    exact gW.mono (B_6 h1 h2 h3 h4 h5 (T_indent hI (X.2.2.2.2.2 (i + 1).toNatClampNeg)) kk) (fun _ _ _ h => h) (by omega) (by omega)
  by_cases c7 : n = 7
  · subst c7
    refine r_tableIn (off := 584) (pc := 45) 629 dL_law_45 (by decide) (by decide) rfl (by decide) ?_
    exact gW.mono (B_7 h1 h2 h3 h4 h5 (T_outdent hI (X.2.2.2.2.2 (i + 1).toNatClampNeg)) kk) (fun _ _ _ h => h) (by omega) (by omega)
  by_cases c8 : n = 8
  · subst c8
    refine r_tableIn (off := 640) (pc := 45) 685 dL_law_45 (by decide) (by decide) rfl (by decide) ?_
    exact gW.mono (B_8 h1 h2 h3 h4 h5 (T_rename hI (X.2.2.2.2.2 (i + 1).toNatClampNeg)) kk) (fun _ _ _ h => h) (by omega) (by omega)
  by_cases c9 : n = 9
  · subst c9
    refine r_tableIn (off := 696) (pc := 45) 741 dL_law_45 (by decide) (by decide) rfl (by decide) ?_
    exact gW.mono (B_9 h1 h2 h3 h4 h5 (T_setNumber hI (X.2.2.2.2.2 (i + 1).toNatClampNeg) (if (X.2.2.2.2.2 (i + 2).toNatClampNeg) = 0 then 0 else 1) (X.2.2.2.2.2 (i + 3).toNatClampNeg)) kk) (fun _ _ _ h => h) (by omega) (by omega)
  by_cases c10 : n = 10
  · subst c10
    refine r_tableIn (off := 792) (pc := 45) 837 dL_law_45 (by decide) (by decide) rfl (by decide) ?_
    exact gW.mono (B_10 h1 h2 h3 h4 h5 (T_setFlag hI (X.2.2.2.2.2 (i + 1).toNatClampNeg) (if (X.2.2.2.2.2 (i + 2).toNatClampNeg) = 0 then 0 else 1) (if (X.2.2.2.2.2 (i + 3).toNatClampNeg) = 0 then 0 else 1)) kk) (fun _ _ _ h => h) (by omega) (by omega)
  by_cases c11 : n = 11
  · subst c11
    refine r_tableIn (off := 911) (pc := 45) 956 dL_law_45 (by decide) (by decide) rfl (by decide) ?_
    exact gW.mono (B_11 h1 h2 h3 h4 h5 (T_item hI (X.2.2.2.2.2 (i + 1).toNatClampNeg) (X.2.2.2.2.2 (i + 2).toNatClampNeg)) kk) (fun _ _ _ h => h) (by omega) (by omega)
  by_cases c12 : n = 12
  · subst c12
    refine r_tableIn (off := 979) (pc := 45) 1024 dL_law_45 (by decide) (by decide) rfl (by decide) ?_
    exact gW.mono (B_12 h1 h2 h3 h4 h5 (T_related hI (X.2.2.2.2.2 (i + 1).toNatClampNeg) (X.2.2.2.2.2 (i + 2).toNatClampNeg) (if (X.2.2.2.2.2 (i + 3).toNatClampNeg) = 0 then 0 else 1)) kk) (fun _ _ _ h => h) (by omega) (by omega)
  by_cases c13 : n = 13
  · subst c13
    refine r_tableIn (off := 1075) (pc := 45) 1120 dL_law_45 (by decide) (by decide) rfl (by decide) ?_
    exact gW.mono (B_13 h1 h2 h3 h4 h5 (T_letter hI (X.2.2.2.2.2 (i + 1).toNatClampNeg) (X.2.2.2.2.2 (i + 2).toNatClampNeg)) kk) (fun _ _ _ h => h) (by omega) (by omega)
  by_cases c14 : n = 14
  · subst c14
    refine r_tableIn (off := 1143) (pc := 45) 1188 dL_law_45 (by decide) (by decide) rfl (by decide) ?_
    exact gW.mono (B_14 h1 h2 h3 h4 h5 (T_isBelow hI (X.2.2.2.2.2 (i + 1).toNatClampNeg) (X.2.2.2.2.2 (i + 2).toNatClampNeg)) kk) (fun _ _ _ h => h) (by omega) (by omega)
  by_cases c15 : n = 15
  · subst c15
    refine r_tableIn (off := 1218) (pc := 45) 1263 dL_law_45 (by decide) (by decide) rfl (by decide) ?_
    exact gW.mono (B_15 h1 h2 h3 h4 h5 (T_outline hI (X.2.2.2.2.2 (i + 1).toNatClampNeg)) kk) (fun _ _ _ h => h) (by omega) (by omega)
  by_cases c16 : n = 16
  · subst c16
    refine r_tableIn (off := 1274) (pc := 45) 1319 dL_law_45 (by decide) (by decide) rfl (by decide) ?_
    exact gW.mono (B_16 h1 h2 h3 h4 h5 (T_doneShare hI (X.2.2.2.2.2 (i + 1).toNatClampNeg)) kk) (fun _ _ _ h => h) (by omega) (by omega)
  by_cases c17 : n = 17
  · subst c17
    refine r_tableIn (off := 1352) (pc := 45) 1397 dL_law_45 (by decide) (by decide) rfl (by decide) ?_
    exact gW.mono (B_17 h1 h2 h3 h4 h5 (T_meanValue hI (X.2.2.2.2.2 (i + 1).toNatClampNeg)) kk) (fun _ _ _ h => h) (by omega) (by omega)
  by_cases c18 : n = 18
  · subst c18
    refine r_tableIn (off := 1429) (pc := 45) 1474 dL_law_45 (by decide) (by decide) rfl (by decide) ?_
    exact gW.mono (B_18 h1 h2 h3 h4 h5 (T_hoist hI (X.2.2.2.2.2 (i + 1).toNatClampNeg)) kk) (fun _ _ _ h => h) (by omega) (by omega)
  by_cases c19 : n = 19
  · subst c19
    refine r_tableIn (off := 1485) (pc := 45) 1530 dL_law_45 (by decide) (by decide) rfl (by decide) ?_
    exact gW.mono (B_19 h1 h2 h3 h4 h5 (T_unhoist hI) kk) (fun _ _ _ h => h) (by omega) (by omega)
  by_cases c20 : n = 20
  · subst c20
    refine r_tableIn (off := 1529) (pc := 45) 1574 dL_law_45 (by decide) (by decide) rfl (by decide) ?_
    exact gW.mono (B_20 h1 h2 h3 h4 h5 (T_filter hI) kk) (fun _ _ _ h => h) (by omega) (by omega)
  by_cases c21 : n = 21
  · subst c21
    refine r_tableIn (off := 1573) (pc := 45) 1618 dL_law_45 (by decide) (by decide) rfl (by decide) ?_
    exact gW.mono (B_21 h1 h2 h3 h4 h5 (T_line hI (X.2.2.2.2.2 (i + 1).toNatClampNeg) (X.2.2.2.2.2 (i + 2).toNatClampNeg)) kk) (fun _ _ _ h => h) (by omega) (by omega)
  by_cases c22 : n = 22
  · subst c22
    refine r_tableIn (off := 1641) (pc := 45) 1686 dL_law_45 (by decide) (by decide) rfl (by decide) ?_
    exact gW.mono (B_22 h1 h2 h3 h4 h5 (T_path hI (X.2.2.2.2.2 (i + 1).toNatClampNeg) (X.2.2.2.2.2 (i + 2).toNatClampNeg)) kk) (fun _ _ _ h => h) (by omega) (by omega)
  by_cases c23 : n = 23
  · subst c23
    refine r_tableIn (off := 1709) (pc := 45) 1754 dL_law_45 (by decide) (by decide) rfl (by decide) ?_
    exact gW.mono (B_23 h1 h2 h3 h4 h5 (T_lineOf hI (X.2.2.2.2.2 (i + 1).toNatClampNeg)) kk) (fun _ _ _ h => h) (by omega) (by omega)
  by_cases c24 : n = 24
  · subst c24
    refine r_tableIn (off := 1734) (pc := 45) 1779 dL_law_45 (by decide) (by decide) rfl (by decide) ?_
    exact gW.mono (B_24 h1 h2 h3 h4 h5 (T_load hI (X.2.2.2.2.2 (i + 1).toNatClampNeg)) kk) (fun _ _ _ h => h) (by omega) (by omega)
  by_cases c25 : n = 25
  · subst c25
    refine r_tableIn (off := 1790) (pc := 45) 1835 dL_law_45 (by decide) (by decide) rfl (by decide) ?_
    exact gW.mono (B_25 h1 h2 h3 h4 h5 (T_errorPosition hI) kk) (fun _ _ _ h => h) (by omega) (by omega)
  by_cases c26 : n = 26
  · subst c26
    refine r_tableIn (off := 1834) (pc := 45) 1879 dL_law_45 (by decide) (by decide) rfl (by decide) ?_
    exact gW.mono (B_26 h1 h2 h3 h4 h5 (T_refusal hI (X.2.2.2.2.2 (i + 1).toNatClampNeg)) kk) (fun _ _ _ h => h) (by omega) (by omega)
  by_cases c27 : n = 27
  · subst c27
    refine r_tableIn (off := 1890) (pc := 45) 1935 dL_law_45 (by decide) (by decide) rfl (by decide) ?_
    exact gW.mono (B_27 h1 h2 h3 h4 h5 (T_isConsistent hI) kk) (fun _ _ _ h => h) (by omega) (by omega)
  by_cases c28 : n = 28
  · subst c28
    refine r_tableIn (off := 1903) (pc := 45) 1948 dL_law_45 (by decide) (by decide) rfl (by decide) ?_
    exact gW.mono (B_28 h1 h2 h3 h4 h5 (T_undo hI) kk) (fun _ _ _ h => h) (by omega) (by omega)
  by_cases c29 : n = 29
  · subst c29
    refine r_tableIn (off := 1947) (pc := 45) 1992 dL_law_45 (by decide) (by decide) rfl (by decide) ?_
    exact gW.mono (B_29 h1 h2 h3 h4 h5 (T_snapshot hI) kk) (fun _ _ _ h => h) (by omega) (by omega)
  by_cases c30 : n = 30
  · subst c30
    refine r_tableIn (off := 1960) (pc := 45) 2005 dL_law_45 (by decide) (by decide) rfl (by decide) ?_
    exact gW.mono (B_30 h1 h2 h3 h4 h5 (T_restore hI) kk) (fun _ _ _ h => h) (by omega) (by omega)
  have c31 : n = 31 := by omega
  subst c31
  refine r_tableOut (pc := 45) 2049 dL_law_45 (by decide) (by decide) ?_
  exact gW.mono (kk S A hI) (fun _ _ _ h => h) (by omega) (by omega)
/-- the loop; t: how many turns are left -/
theorem loop_all (hL : X.2.2.2.2.1 ≤ 3072) (hQ : ∀ n h, Q (.inl (some (.int 1))) n h) : ∀ (t p : Nat) (S : pS) (A : As), LI S A → p ≤ 3078 → X.2.2.2.2.1 < p + 6 * t + 6 → gW X mL_law 28 (lw_ls (Int32.ofNat p)) [] S.1 S.2 Q (12 * t) (1626 * t) := by
  intro t
  induction t with
  | zero =>
    intro p S A hI hp ht
    refine r_iload (pc := 28) dL_law_28 rfl ?_
    refine r_xload_n (pc := 30) dL_law_30 rfl ?_
    refine r_slen (pc := 31) dL_law_31 ?_
    refine r_bipush (pc := 32) (6 : Int32) dL_law_32 (by decide) ?_
    refine r_isub (pc := 34) dL_law_34 ?_
    refine r_icmp_gt (pc := 35) 2055 dL_law_35 (by decide) (fun _ => ?_) (fun z => absurd ((gt_at (by omega) hL).mpr (by omega)) z)
    refine r_iconst (pc := 2055) (1 : Int32) dL_law_2055 (by decide) ?_
    exact r_ireturn (pc := 2056) .boolean dL_law_2056 rfl (by decide) (hQ _ _)
  | succ t ih =>
    intro p S A hI hp ht
    refine r_iload (pc := 28) dL_law_28 rfl ?_
    refine r_xload_n (pc := 30) dL_law_30 rfl ?_
    refine r_slen (pc := 31) dL_law_31 ?_
    refine r_bipush (pc := 32) (6 : Int32) dL_law_32 (by decide) ?_
    refine r_isub (pc := 34) dL_law_34 ?_
    refine r_icmp_gt (pc := 35) 2055 dL_law_35 (by decide) (fun _ => ?_) (fun z => ?_)
    · refine r_iconst (pc := 2055) (1 : Int32) dL_law_2055 (by decide) ?_
      exact r_ireturn (pc := 2056) .boolean dL_law_2056 rfl (by decide) (hQ _ _)
    · have hz : ¬ X.2.2.2.2.1 < p + 6 := fun q => z ((gt_at (by omega) hL).mpr q)
      have h0 : vp_in (Int32.ofNat p) X.2.2.2.2.1 := by
        have := in_at (p := p) (d := 0) (by omega) hL
        rw [i32_add] at this
        exact this
      refine turn_all h0 (in_at (d := 1) (by omega) hL) (in_at (d := 2) (by omega) hL) (in_at (d := 3) (by omega) hL) (in_at (d := 4) (by omega) hL) (in_at (d := 5) (by omega) hL) hI (mc := 12 * t) (ms := 1626 * t) (fun S2 A' hI2 => ?_)
      refine r_iinc (pc := 2049) dL_law_2049 rfl (by decide) ?_
      refine r_goto (pc := 2052) 28 dL_law_2052 (by decide) ?_
      have e6 : Int32.ofNat p + Int32.ofInt 6 = Int32.ofNat (p + 6) := i32_add p 6
      rw [e6]
      exact ih (p + 6) S2 A' hI2 (by omega) (by omega)
set_option maxRecDepth 100000 in
set_option maxHeartbeats 4000000 in
/-- the law -/
theorem law_all (hL : X.2.2.2.2.1 ≤ 3072) (hQ : ∀ n h, Q (.inl (some (.int 1))) n h) : gW X mL_law 0 [some (.retAddr 0), none, none, none, none, none, none, none, none] [] 0 h0 Q 6300 870000 := by
  obtain ⟨S5, f9, f10, n5, S7, e7, n7, hC, hR, a1, a2⟩ := start_all
  refine r_new (pc := 0) 9 tyX9 dL_law_0 rfl uX9 tyX9_ok nL_8.1 nL_8.2.1 nL_8.2.2 (mc2 := 6299) (ms2 := 869984) (by decide) (by decide) dfX9_ok ?_
  change gW _ _ _ _ _ (oNew (0, h0) (.inr (9, dfX9))).1 (oNew (0, h0) (.inr (9, dfX9))).2 _ _ _
  refine r_dup (pc := 3) dL_law_3 rfl ?_
  refine q_callI (pc := 4) (S' := s9) mX9_init dL_law_4 kL_112 fX9_init iX9_init rfl rfl ⟨by decide, by decide⟩ (Nat.le_of_ble_eq_true rfl) (mc1 := 67) (ms1 := 6540) (mc2 := 6232) (ms2 := 863444) (by decide) (by decide) (C_X9_init (oNew (0, h0) (.inr (9, dfX9))) 0 s9 f9 (qR_mk _ _)) ?_
  refine r_astore_n (pc := 7) dL_law_7 (by decide) ?_
  refine r_new (pc := 8) 10 tyX10 dL_law_8 rfl uX10 tyX10_ok nL_113.1 nL_113.2.1 nL_113.2.2 (mc2 := 6231) (ms2 := 863389) (by decide) (by decide) dfX10_ok ?_
  change gW _ _ _ _ _ (oNew s9 (.inr (10, dfX10))).1 (oNew s9 (.inr (10, dfX10))).2 _ _ _
  refine r_dup (pc := 11) dL_law_11 rfl ?_
  refine q_callI (pc := 12) (S' := S5) mX10_init dL_law_12 kL_115 fX10_init iX10_init rfl rfl ⟨by decide, by decide⟩ (Nat.le_of_ble_eq_true rfl) (mc1 := 40) (ms1 := 22218) (mc2 := 6191) (ms2 := 841171) (by decide) (by decide) (C_X10_init (oNew s9 (.inr (10, dfX10))) s9.1 S5 f10 (qR_mk _ _)) ?_
  refine r_astore_n (pc := 15) dL_law_15 (by decide) ?_
  refine r_iconst (pc := 16) (1 : Int32) dL_law_16 (by decide) ?_
  refine r_newa (pc := 17) .long .long (1, .inr (.inl fun _ => 0)) dL_law_17 rfl (by decide) k_arr_long (fun _ => rfl) (fun _ => rfl) (by decide) (by decide) (by decide) (mc2 := 6190) (ms2 := 841170) (by decide) (by decide) ?_
  change gW _ _ _ _ _ (oNew S5 (.inl (.long, 1, .inr (.inl fun _ => 0)))).1 (oNew S5 (.inl (.long, 1, .inr (.inl fun _ => 0)))).2 _ _ _
  refine r_astore_n (pc := 19) dL_law_19 (by decide) ?_
  refine r_iconst (pc := 20) (1 : Int32) dL_law_20 (by decide) ?_
  refine r_newa (pc := 21) .double .double (1, .inr (.inr (.inr (.inl fun _ => 0)))) dL_law_21 rfl (by decide) k_arr_double (fun _ => rfl) (fun _ => rfl) (by decide) (by decide) (by decide) (mc2 := 6189) (ms2 := 841169) (by decide) (by decide) ?_
  change gW _ _ _ _ _ (oNew (oNew S5 (.inl (.long, 1, .inr (.inl fun _ => 0)))) (.inl (.double, 1, .inr (.inr (.inr (.inl fun _ => 0)))))).1 (oNew (oNew S5 (.inl (.long, 1, .inr (.inl fun _ => 0)))) (.inl (.double, 1, .inr (.inr (.inr (.inl fun _ => 0)))))).2 _ _ _
  rw [← e7]
  refine r_astore (pc := 23) dL_law_23 (by decide) ?_
  refine r_iconst (pc := 25) (0 : Int32) dL_law_25 (by decide) ?_
  refine r_istore (pc := 26) dL_law_26 (by decide) ?_
  have n9 : s9.1 = 68 := s9_n
  have hI : LI S7 A0 := ⟨⟨R0, 35, 41, hC⟩, hR, ok_A0, ⟨_, a1⟩, _, a2⟩
  have hl := loop_all hL hQ 512 0 S7 A0 hI (by omega) (by omega)
  refine gW.weak (ls' := lw_ls (Int32.ofNat 0)) ?_ (gW.mono hl (fun _ _ _ h => h) (by decide) (by decide))
  show gle _ [some (.retAddr 0), some (.ref 0), some (.ref s9.1), some (.ref S5.1), some (.ref (S5.1 + 1)), some (.int 0), none, none, none]
  rw [n9, n5]
  simp [gle]
end LAW
