theorem gkill_rf (x : Option Nat) : gkill (some (va_rf x)) = some (va_rf x) := by cases x <;> rfl
/-! String constants: the JDK's own methods over them -/
theorem lS_value : Cond.fieldLink RJ0 9 "java/lang/String" "value" "[B" ∈ gT := gT_in (List.mem_append_right _ (List.mem_of_getElem? (i := 1823) (by decide +kernel))) (by decide +kernel)
theorem lS_coder : Cond.fieldLink RJ0 15 "java/lang/String" "coder" "B" ∈ gT := gT_in (List.mem_append_right _ (List.mem_of_getElem? (i := 1824) (by decide +kernel))) (by decide +kernel)
theorem lS_compact : Cond.fieldLink RJ0 38 "java/lang/String" "COMPACT_STRINGS" "Z" ∈ gT := gT_in (List.mem_append_right _ (List.mem_of_getElem? (i := 1081) (by decide +kernel))) (by decide +kernel)
theorem lS_fmt : Cond.fieldLink RJ0 1053 "jdk/internal/util/Preconditions" "SIOOBE_FORMATTER" "Ljava/util/function/BiFunction;" ∈ gT := gT_in (List.mem_append_right _ (List.mem_of_getElem? (i := 1097) (by decide +kernel))) (by decide +kernel)
section RULES
variable {X : pX} {M : pM} {pc : Nat} {ls : List (Option Value)} {st : List Value} {n : Nat} {h : pF} {Q : pO → Nat → pF → Prop} {mc ms mc1 ms1 mc2 ms2 : Nat}
theorem gCx_str {l : Launch} {p : Program} {R : Room} {s : State} {m : MethodId} {args : Array Value} {meth : Method} {c : Code} (C : gCx X M l p R s m args meth c) : vk_S 8 pLen pByt (fun i => X.2.1 (i + 1)) (fun i => X.2.1 (i + 100)) (pA X) s s.heap := (gCx_k C).2.2.2.2.2.1
theorem r_sval {i : Nat} (hi : i < 8) (hM : M.1.cls = RJ0) (hd : decode M.2.1 pc = .ok (.getfield 9, 3)) (k : gW X M (pc + 3) ls (.retAddr (i + 100) :: st) n h Q mc ms) : gW X M pc ls (.retAddr (i + 1) :: st) n h Q mc ms :=
  fun l p e R s m args below meth c H locs cells slots lsA QQ C hw hS hl h1 h2 kR kX kN => vk_getf C.1 C.2.1 ((gCx_str C).1 i hi).2.2.1 hS (gCx_own C) (by rw [hM]; exact gCx_ts C _ lS_value) (fun _ z => z) hd (k l p e R s m args below meth c H locs cells slots lsA QQ C hw hS hl h1 h2 kR kX kN)
theorem r_scod {i : Nat} (hi : i < 8) (hM : M.1.cls = RJ0) (hd : decode M.2.1 pc = .ok (.getfield 15, 3)) (k : gW X M (pc + 3) ls (.int 0 :: st) n h Q mc ms) : gW X M pc ls (.retAddr (i + 1) :: st) n h Q mc ms :=
  fun l p e R s m args below meth c H locs cells slots lsA QQ C hw hS hl h1 h2 kR kX kN => vk_getf C.1 C.2.1 ((gCx_str C).1 i hi).2.1 hS (gCx_own C) (by rw [hM]; exact gCx_ts C _ lS_coder) (fun _ z => z) hd (k l p e R s m args below meth c H locs cells slots lsA QQ C hw hS hl h1 h2 kR kX kN)
theorem r_compact (hM : M.1.cls = RJ0) (hd : decode M.2.1 pc = .ok (.getstatic 38, 3)) (k : gW X M (pc + 3) ls (.int 1 :: st) n h Q mc ms) : gW X M pc ls st n h Q mc ms :=
  fun l p e R s m args below meth c H locs cells slots lsA QQ C hw hS hl h1 h2 kR kX kN => va_gets C.1 C.2.1 (gCx_k C).2.2.2.2.2.2.2.2.2.2.2.2.2.2.1 hS (gCx_own C) (by rw [hM]; exact gCx_ts C _ lS_compact) (fun _ z => z) hd (k l p e R s m args below meth c H locs cells slots lsA QQ C hw hS hl h1 h2 kR kX kN)
theorem r_fmt (hM : M.1.cls = RJ0) (hd : decode M.2.1 pc = .ok (.getstatic 1053, 3)) (k : ∀ w : Value, w.category = 1 → gW X M (pc + 3) ls (w :: st) n h Q mc ms) : gW X M pc ls st n h Q mc ms := by
  intro l p e R s m args below meth c H locs cells slots lsA QQ C hw hS hl h1 h2 kR kX kN
  rcases (gCx_k C).2.2.2.2.2.2.2.2.2.2.2.2.2.2.2 with hz | hz
  · exact va_gets C.1 C.2.1 hz hS (gCx_own C) (by rw [hM]; exact gCx_ts C _ lS_fmt) (fun _ z => z) hd (k .null rfl l p e R s m args below meth c H locs cells slots lsA QQ C hw hS hl h1 h2 kR kX kN)
  · exact va_gets C.1 C.2.1 hz hS (gCx_own C) (by rw [hM]; exact gCx_ts C _ lS_fmt) (fun _ z => z) hd (k (.retAddr 200) rfl l p e R s m args below meth c H locs cells slots lsA QQ C hw hS hl h1 h2 kR kX kN)
theorem r_blen {i : Nat} (hi : i < 8) (hd : decode M.2.1 pc = .ok (.arraylength, 1)) (k : gW X M (pc + 1) ls (.int (Int32.ofNat (pLen.getD i 0)) :: st) n h Q mc ms) : gW X M pc ls (.retAddr (i + 100) :: st) n h Q mc ms :=
  fun l p e R s m args below meth c H locs cells slots lsA QQ C hw hS hl h1 h2 kR kX kN => va_tlen C.1 C.2.1 ((gCx_str C).1 i hi).2.2.2 hS rfl hd (k l p e R s m args below meth c H locs cells slots lsA QQ C hw hS hl h1 h2 kR kX kN)
theorem r_bld {i : Nat} {j : Int32} (hi : i < 8) (hin : vp_in j (pLen.getD i 0)) (hd : decode M.2.1 pc = .ok (.baload, 1)) (k : gW X M (pc + 1) ls (.int ((pByt.getD i []).getD j.toNatClampNeg 0) :: st) n h Q mc ms) : gW X M pc ls (.int j :: .retAddr (i + 100) :: st) n h Q mc ms :=
  fun l p e R s m args below meth c H locs cells slots lsA QQ C hw hS hl h1 h2 kR kX kN => va_tb C.1 C.2.1 ((gCx_str C).1 i hi).2.2.2 hS hin rfl hd (k l p e R s m args below meth c H locs cells slots lsA QQ C hw hS hl h1 h2 kR kX kN)
theorem r_callVE {idx : Nat} (M' : pM) (as : List Value) {i k : Nat} {v : Option Value} {S' : pS} {Sk : List Value} (hd : decode M.2.1 pc = .ok (.invokevirtual idx, 3)) (hlk : Cond.methodLink M.1.cls idx M'.1 ∈ gT) (hm : gMth M' k) (hi : Cond.instanceMethod M'.1 ∈ gT ∧ Cond.selects M'.1.cls M'.1 M'.1 ∈ gT)
    (hroom : M'.2.2.2.2.1 + 1 ≤ M.2.2.2.2.1 ∧ 8 + (M'.2.2.1 + 11) + M'.2.2.2.2.2 ≤ M.2.2.2.2.2) (hcl : M'.1.cls = "java/lang/String") (hi8 : i < 8) (hS0 : Sk = as.reverse ++ .retAddr (i + 1) :: st) (hk : as.length = k) (hcat : (st.map fun v => v.category).sum ≤ 8)
    (hC : gC X M' (.retAddr (i + 1) :: as) n h (qR v S') 0 0) (kk : gW X M (pc + 3) ls (v.toList ++ st) S'.1 S'.2 Q mc ms) : gW X M pc ls Sk n h Q mc ms := by
  intro l p e R s m args below meth c H locs cells slots lsA QQ C hw hS hl h1 h2 kR kX kN
  subst hS0
  have hrun := vx_runV (As := as.map (pv X)) (rest := st.map (pv X)) (g := F0 m pc lsA ((as.reverse ++ .retAddr (i + 1) :: st).map (pv X))) (b := X.2.1 (i + 1)) (C := M'.1.cls) (H := H) (below := below) (e := e) (locs := locs) (cells := cells) (slots := slots) (meth := meth) (nL := M.2.2.1) ⟨C.1, C.2.1, C.2.2.1, gCx_own C, gCx_ts C⟩ (hC l C.2.2.2.2.2.2.2.2.2.2.1)
    (R := R) (index := idx) (n := k) (bytes := M'.2.1) (maxL := M'.2.2.1) (ret := M'.2.2.2.1) ⟨callB_of k (gCx_ts C) (gws_good hm.1) rfl rfl rfl (gCx_ts C _ hm.2.1) (gCx_ts C _ hlk) hm.2.2 ⟨Nat.le_trans hroom.1 C.2.2.2.2.2.2.2.2.1, Nat.le_trans hroom.2 C.2.2.2.2.2.2.2.2.2.1⟩, gCx_ts C _ hi.1, gCx_ts C _ hi.2⟩
    ⟨gP_blind, by rw [hcl]; exact vk_recv (adK := fun i => X.2.1 (i + 1)) (i := i) (gCx_str C) hi8 hS, fun U hU hW => ⟨rfl, by rw [hU]; exact hw, pk_step (gCx_k C) hW hU hS⟩⟩ rfl (by rw [List.length_map]; exact hk) hl.1 (by simp [F0, pv]) (by rw [g_cat]; show 2 * 0 + _ ≤ 8; omega) hd ⟨by omega, by omega⟩
  intro T hT XT
  rcases hrun T hT XT with ⟨v1, st₀, t, T', L, h0, X', hL, e1, e2, ⟨v', n', h', hv, hq, hw', hF⟩, stp⟩ | ⟨q, st₀, t, T', L, E, ce, h0, X', hL, e1, e2, ⟨n', h', hq, hw', hF⟩, hce, hcv, hcl', stp⟩
  · obtain ⟨k1, k2, k3⟩ := vx_keep h0 e1 hS (fun _ _ z => z) (fun _ z => z) hL hF
    cases hv
    obtain ⟨q1, q2, q3⟩ := hq
    cases q1; subst q2; subst q3
    obtain ⟨t2, a1, b1⟩ := kk l p e R s m args below meth c T'.heap (locs ++ L) (cells + 0) (slots + 0) lsA QQ C (by rw [e1]; exact hw') k3 hl (by omega) (by omega) kR kX kN T' rfl X'
    refine ⟨t2, stp t2 ?_, b1⟩
    have e9 : (v.map (pv X)).toList ++ st.map (pv X) = (v.toList ++ st).map (pv X) := by cases v <;> simp
    rw [e9]
    exact a1
  · cases hq.1
theorem r_ldcSW {idx : Nat} (i : Nat) {tx : String} (hd : decode M.2.1 pc = .ok (.ldc_w idx, 3)) (hs : pStr[i]? = some (M.1.cls, idx, tx)) (k : gW X M (pc + 3) ls (.retAddr (i + 1) :: st) n h Q mc ms) : gW X M pc ls st n h Q mc ms := by
  intro l p e R s m args below meth c H locs cells slots lsA QQ C hw hS hl h1 h2 kR kX kN T hT XT
  have hZ := (gCx_k C).2.2.2.2.1 i _ hs
  obtain ⟨t, a1, b1⟩ := k l p e R s m args below meth c H locs cells slots lsA QQ C hw hS hl h1 h2 kR kX kN T hT XT
  exact ⟨t, XT.ldcStringW C.1 (gCx_own C) (text := tx) (a := X.2.1 (i + 1)) hZ.1 hZ.2 (g := F0 m pc lsA (st.map (pv X))) rfl (by rw [C.2.1]; exact hd) t a1, b1⟩
end RULES
theorem C_coder {X : pX} {i : Nat} (hi : i < 8) (n : Nat) (h : pF) : gC X mJ0_coder_7d493 [.retAddr (i + 1)] n h (qR (some (.int 0)) (n, h)) 0 0 := by
  refine gC_of (by decide) (Nat.le_of_ble_eq_true rfl) rfl ?_
  change gW _ _ _ [some (.retAddr (i + 1))] _ _ _ _ _ _
  refine r_compact (pc := 0) rfl dJ0_coder_7d493_0 ?_
  refine r_if_eq (pc := 3) 13 dJ0_coder_7d493_3 (by decide) (fun hc => absurd hc (by decide)) (fun hc => ?_)
  refine r_xload_n (pc := 6) dJ0_coder_7d493_6 rfl ?_
  refine r_scod (pc := 7) hi rfl dJ0_coder_7d493_7 ?_
  refine r_goto (pc := 10) 14 dJ0_coder_7d493_10 (by decide) ?_
  exact r_ireturn (pc := 14) .byte dJ0_coder_7d493_14 rfl rfl ⟨rfl, rfl, rfl⟩
theorem C_isLatin1 {X : pX} {i : Nat} (hi : i < 8) (n : Nat) (h : pF) : gC X mJ0_isLatin1_aae02 [.retAddr (i + 1)] n h (qR (some (.int 1)) (n, h)) 0 0 := by
  refine gC_of (by decide) (Nat.le_of_ble_eq_true rfl) rfl ?_
  change gW _ _ _ [some (.retAddr (i + 1))] _ _ _ _ _ _
  refine r_compact (pc := 0) rfl dJ0_isLatin1_aae02_0 ?_
  refine r_if_eq (pc := 3) 17 dJ0_isLatin1_aae02_3 (by decide) (fun hc => absurd hc (by decide)) (fun hc => ?_)
  refine r_xload_n (pc := 6) dJ0_isLatin1_aae02_6 rfl ?_
  refine r_scod (pc := 7) hi rfl dJ0_isLatin1_aae02_7 ?_
  refine r_if_ne (pc := 10) 17 dJ0_isLatin1_aae02_10 (by decide) (fun hc => absurd rfl hc) (fun hc => ?_)
  refine r_iconst (pc := 13) (1 : Int32) dJ0_isLatin1_aae02_13 (by decide) ?_
  refine r_goto (pc := 14) 18 dJ0_isLatin1_aae02_14 (by decide) ?_
  exact r_ireturn (pc := 18) .boolean dJ0_isLatin1_aae02_18 rfl rfl ⟨rfl, rfl, rfl⟩
theorem len_shr : ∀ i, i < 8 → Int32.ofNat (pLen.getD i 0) >>> ((0 : Int32) &&& 31) = Int32.ofNat (pLen.getD i 0) := by decide +kernel
theorem byt_chr : ∀ i, i < 8 → ∀ j, j < pLen.getD i 0 → ((((pByt.getD i []).getD j 0) &&& (255 : Int32)).toUInt32 % 65536).toInt32 = (pByt.getD i []).getD j 0 ∧ narrow .char (.int ((pByt.getD i []).getD j 0)) = .int ((pByt.getD i []).getD j 0) := by decide +kernel
theorem C_length {X : pX} {i : Nat} (hi : i < 8) (n : Nat) (h : pF) : gC X mJ0_length_8abf5 [.retAddr (i + 1)] n h (qR (some (.int (Int32.ofNat (pLen.getD i 0)))) (n, h)) 0 0 := by
  refine gC_of (by decide) (Nat.le_of_ble_eq_true rfl) rfl ?_
  change gW _ _ _ [some (.retAddr (i + 1))] _ _ _ _ _ _
  refine r_xload_n (pc := 0) dJ0_length_8abf5_0 rfl ?_
  refine r_sval (pc := 1) hi rfl dJ0_length_8abf5_1 ?_
  refine r_blen (pc := 4) hi dJ0_length_8abf5_4 ?_
  refine r_xload_n (pc := 5) dJ0_length_8abf5_5 rfl ?_
  refine r_callVE (pc := 6) (S' := (n, h)) mJ0_coder_7d493 [] dJ0_length_8abf5_6 kJ0_335 fJ0_coder_7d493 iJ0_coder_7d493 ⟨by decide, by decide⟩ rfl hi rfl rfl (Nat.le_of_ble_eq_true rfl) (C_coder hi n h) ?_
  change gW _ _ _ _ (.int 0 :: _) _ _ _ _ _
  refine r_ishr (pc := 9) dJ0_length_8abf5_9 ?_
  rw [len_shr i hi]
  exact r_ireturn (pc := 10) .int dJ0_length_8abf5_10 rfl rfl ⟨rfl, rfl, rfl⟩
theorem C_preCheck {X : pX} {k z : Int32} (w : Value) (hw : w.category = 1) (h0 : ¬ k < 0) (hz : k < z) (n : Nat) (h : pF) : gC X mJ3_checkIndex_8e157 [.int k, .int z, w] n h (qR (some (.int k)) (n, h)) 0 0 := by
  have hg : gargs [.int k, .int z, w] = [some (.int k), some (.int z), some w] := by cases w <;> first | rfl | cases hw
  refine gC_of (by decide) (by rw [hg]; exact Nat.le_of_ble_eq_true rfl) rfl ?_
  unfold gent
  rw [hg]
  change gW _ _ _ [some (.int k), some (.int z), some w] _ _ _ _ _ _
  refine r_iload_n (pc := 0) dJ3_checkIndex_8e157_0 rfl ?_
  refine r_if_lt (pc := 1) 9 dJ3_checkIndex_8e157_1 (by decide) (fun hc => absurd hc h0) (fun hc => ?_)
  refine r_iload_n (pc := 4) dJ3_checkIndex_8e157_4 rfl ?_
  refine r_iload_n (pc := 5) dJ3_checkIndex_8e157_5 rfl ?_
  refine r_icmp_lt (pc := 6) 16 dJ3_checkIndex_8e157_6 (by decide) (fun hc => ?_) (fun hc => absurd hz hc)
  refine r_iload_n (pc := 16) dJ3_checkIndex_8e157_16 rfl ?_
  exact r_ireturn (pc := 17) .int dJ3_checkIndex_8e157_17 rfl rfl ⟨rfl, rfl, rfl⟩
theorem C_sCheck {X : pX} {k z : Int32} (h0 : ¬ k < 0) (hz : k < z) (n : Nat) (h : pF) : gC X mJ0_checkIndex_df160 [.int k, .int z] n h (qR none (n, h)) 0 0 := by
  refine gC_of (by decide) (Nat.le_of_ble_eq_true rfl) rfl ?_
  change gW _ _ _ [some (.int k), some (.int z)] _ _ _ _ _ _
  refine r_iload_n (pc := 0) dJ0_checkIndex_df160_0 rfl ?_
  refine r_iload_n (pc := 1) dJ0_checkIndex_df160_1 rfl ?_
  refine r_fmt (pc := 2) rfl dJ0_checkIndex_df160_2 (fun w hw => ?_)
  refine q_callS (pc := 5) (S := (n, h)) (S' := (n, h)) (v := some (.int k)) mJ3_checkIndex_8e157 [.int k, .int z, w] dJ0_checkIndex_df160_5 kJ0_1059 fJ3_checkIndex_8e157 sJ3_checkIndex_8e157 ⟨by decide, by decide⟩ rfl rfl (Nat.le_of_ble_eq_true rfl) (mc1 := 0) (ms1 := 0) (mc2 := 0) (ms2 := 0) (by decide) (by decide) (C_preCheck w hw h0 hz n h) ?_
  change gW _ _ _ _ (.int k :: _) _ _ _ _ _
  refine r_pop (pc := 8) dJ0_checkIndex_df160_8 rfl ?_
  exact r_return (pc := 9) dJ0_checkIndex_df160_9 rfl ⟨rfl, rfl, rfl⟩
theorem C_latinCharAt {X : pX} {i : Nat} {k : Int32} (hi : i < 8) (hk : vp_in k (pLen.getD i 0)) (n : Nat) (h : pF) : gC X mJ1_charAt_3b067 [.retAddr (i + 100), .int k] n h (qR (some (.int ((pByt.getD i []).getD k.toNatClampNeg 0))) (n, h)) 0 0 := by
  have hl8 : ∀ i, i < 8 → pLen.getD i 0 < 100 := by decide
  have h0 : ¬ k < 0 := fun q => hk (Or.inl q)
  have hlt : k.toNatClampNeg < pLen.getD i 0 := Nat.not_le.mp fun q => hk (Or.inr q)
  have hz : k < Int32.ofNat (pLen.getD i 0) := by
    have := hl8 i hi
    have e0 : (0 : Int) ≤ k.toInt := by
      have := Int32.not_lt.mp h0
      simpa using Int32.le_iff_toInt_le.mp this
    have e1 : k.toInt = (k.toNatClampNeg : Int) := by
      show k.toInt = ((k.toInt.toNat : Nat) : Int)
      omega
    rw [Int32.lt_iff_toInt_lt, e1]
    rw [show Int32.ofNat (pLen.getD i 0) = Int32.ofInt ((pLen.getD i 0 : Nat) : Int) from rfl, Int32.toInt_ofInt_of_le (by omega) (by omega)]
    omega
  refine gC_of (by decide) (Nat.le_of_ble_eq_true rfl) rfl ?_
  change gW _ _ _ [some (.retAddr (i + 100)), some (.int k)] _ _ _ _ _ _
  refine r_iload_n (pc := 0) dJ1_charAt_3b067_0 rfl ?_
  refine r_xload_n (pc := 1) dJ1_charAt_3b067_1 rfl ?_
  refine r_blen (pc := 2) hi dJ1_charAt_3b067_2 ?_
  refine q_callS (pc := 3) (S := (n, h)) (S' := (n, h)) (v := none) mJ0_checkIndex_df160 [.int k, .int (Int32.ofNat (pLen.getD i 0))] dJ1_charAt_3b067_3 kJ1_9 fJ0_checkIndex_df160 sJ0_checkIndex_df160 ⟨by decide, by decide⟩ rfl rfl (Nat.le_of_ble_eq_true rfl) (mc1 := 0) (ms1 := 0) (mc2 := 0) (ms2 := 0) (by decide) (by decide) (C_sCheck h0 hz n h) ?_
  change gW _ _ _ _ [] _ _ _ _ _
  refine r_xload_n (pc := 6) dJ1_charAt_3b067_6 rfl ?_
  refine r_iload_n (pc := 7) dJ1_charAt_3b067_7 rfl ?_
  refine r_bld (pc := 8) hi hk dJ1_charAt_3b067_8 ?_
  refine r_sipush (pc := 9) (255 : Int32) dJ1_charAt_3b067_9 (by decide) ?_
  refine r_iand (pc := 12) dJ1_charAt_3b067_12 ?_
  refine r_i2c (pc := 13) dJ1_charAt_3b067_13 ?_
  rw [(byt_chr i hi _ hlt).1]
  exact r_ireturn (pc := 14) .char dJ1_charAt_3b067_14 rfl (byt_chr i hi _ hlt).2 ⟨rfl, rfl, rfl⟩
theorem C_charAt {X : pX} {i : Nat} {k : Int32} (hi : i < 8) (hk : vp_in k (pLen.getD i 0)) (n : Nat) (h : pF) : gC X mJ0_charAt_5068e [.retAddr (i + 1), .int k] n h (qR (some (.int ((pByt.getD i []).getD k.toNatClampNeg 0))) (n, h)) 0 0 := by
  have hlt : k.toNatClampNeg < pLen.getD i 0 := Nat.not_le.mp fun q => hk (Or.inr q)
  refine gC_of (by decide) (Nat.le_of_ble_eq_true rfl) rfl ?_
  change gW _ _ _ [some (.retAddr (i + 1)), some (.int k)] _ _ _ _ _ _
  refine r_xload_n (pc := 0) dJ0_charAt_5068e_0 rfl ?_
  refine r_callVE (pc := 1) (S' := (n, h)) mJ0_isLatin1_aae02 [] dJ0_charAt_5068e_1 kJ0_492 fJ0_isLatin1_aae02 iJ0_isLatin1_aae02 ⟨by decide, by decide⟩ rfl hi rfl rfl (Nat.le_of_ble_eq_true rfl) (C_isLatin1 hi n h) ?_
  change gW _ _ _ _ (.int 1 :: _) _ _ _ _ _
  refine r_if_eq (pc := 4) 16 dJ0_charAt_5068e_4 (by decide) (fun hc => absurd hc (by decide)) (fun hc => ?_)
  refine r_xload_n (pc := 7) dJ0_charAt_5068e_7 rfl ?_
  refine r_sval (pc := 8) hi rfl dJ0_charAt_5068e_8 ?_
  refine r_iload_n (pc := 11) dJ0_charAt_5068e_11 rfl ?_
  refine q_callS (pc := 12) (S := (n, h)) (S' := (n, h)) (v := some (.int ((pByt.getD i []).getD k.toNatClampNeg 0))) mJ1_charAt_3b067 [.retAddr (i + 100), .int k] dJ0_charAt_5068e_12 kJ0_495 fJ1_charAt_3b067 sJ1_charAt_3b067 ⟨by decide, by decide⟩ rfl rfl (Nat.le_of_ble_eq_true rfl) (mc1 := 0) (ms1 := 0) (mc2 := 0) (ms2 := 0) (by decide) (by decide) (C_latinCharAt hi hk n h) ?_
  exact r_ireturn (pc := 15) .char dJ0_charAt_5068e_15 rfl (byt_chr i hi _ hlt).2 ⟨rfl, rfl, rfl⟩
/-- String constants: length and characters -/
def oLen (x : Nat) : Option Int32 := match x with
  | 0 => none
  | i + 1 => if i < 8 then some (Int32.ofNat (pLen.getD i 0)) else none
def oChr (x : Nat) (k : Int32) : Option Int32 := match x with
  | 0 => none
  | i + 1 => if i < 8 ∧ ¬ (k < 0 ∨ pLen.getD i 0 ≤ k.toNatClampNeg) then some ((pByt.getD i []).getD k.toNatClampNeg 0) else none
section RULES
variable {X : pX} {M : pM} {pc : Nat} {ls : List (Option Value)} {st : List Value} {S : pS} {Q : pO → Nat → pF → Prop} {mc ms : Nat}
theorem q_len {idx x : Nat} {v : Int32} (hd : decode M.2.1 pc = .ok (.invokevirtual idx, 3)) (hlk : Cond.methodLink M.1.cls idx yJ0_length_8abf5 ∈ gT) (hroom : mJ0_length_8abf5.2.2.2.2.1 + 1 ≤ M.2.2.2.2.1 ∧ 8 + (mJ0_length_8abf5.2.2.1 + 11) + mJ0_length_8abf5.2.2.2.2.2 ≤ M.2.2.2.2.2) (hcat : (st.map fun v => v.category).sum ≤ 8) (hmc : 0 ≤ mc) (hms : 0 ≤ ms) (e : oLen x = some v) (kk : gW X M (pc + 3) ls (.int v :: st) S.1 S.2 Q mc ms) : gW X M pc ls (.retAddr x :: st) S.1 S.2 Q mc ms := by
  cases x with
  | zero => cases e
  | succ i =>
    by_cases hi : i < 8
    · have e' : some (Int32.ofNat (pLen.getD i 0)) = some v := by simpa [oLen, hi] using e
      cases e'
      exact r_callVE (S' := S) mJ0_length_8abf5 [] hd hlk fJ0_length_8abf5 iJ0_length_8abf5 hroom rfl hi rfl rfl hcat (C_length hi S.1 S.2) kk
    · simp [oLen, hi] at e
theorem q_chr {idx x : Nat} {k v : Int32} (hd : decode M.2.1 pc = .ok (.invokevirtual idx, 3)) (hlk : Cond.methodLink M.1.cls idx yJ0_charAt_5068e ∈ gT) (hroom : mJ0_charAt_5068e.2.2.2.2.1 + 1 ≤ M.2.2.2.2.1 ∧ 8 + (mJ0_charAt_5068e.2.2.1 + 11) + mJ0_charAt_5068e.2.2.2.2.2 ≤ M.2.2.2.2.2) (hcat : (st.map fun v => v.category).sum ≤ 8) (hmc : 0 ≤ mc) (hms : 0 ≤ ms) (e : oChr x k = some v) (kk : gW X M (pc + 3) ls (.int v :: st) S.1 S.2 Q mc ms) : gW X M pc ls (.int k :: .retAddr x :: st) S.1 S.2 Q mc ms := by
  cases x with
  | zero => cases e
  | succ i =>
    by_cases hi : i < 8 ∧ ¬ (k < 0 ∨ pLen.getD i 0 ≤ k.toNatClampNeg)
    · have e' : some ((pByt.getD i []).getD k.toNatClampNeg 0) = some v := by
        have : oChr (i + 1) k = some ((pByt.getD i []).getD k.toNatClampNeg 0) := by unfold oChr; exact if_pos hi
        rw [← this]; exact e
      cases e'
      exact r_callVE (S' := S) mJ0_charAt_5068e [.int k] hd hlk fJ0_charAt_5068e iJ0_charAt_5068e hroom rfl hi.1 rfl rfl hcat (C_charAt hi.1 hi.2 S.1 S.2) kk
    · have : oChr (i + 1) k = none := by unfold oChr; exact if_neg hi
      rw [this] at e; cases e
end RULES
