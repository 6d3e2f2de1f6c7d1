def F_X10_item (S : pS) (a0 : Nat) (a1 : Int32) (a2 : Int32) : Option (Int32 × pS) := (oF S a0 10).bind fun _ => (oPI S a0 10 0 (0 : Int32)).bind fun S1 => (F_X10_isItem S1 a0 a1).bind fun q3 => if ¬ q3 = 0 then ((F_X10_knows S1 a0).bind fun q5 => if a2 = (0 : Int32) then ((F_X10_parents q5 a0 a1).bind fun q7 => some (q7, q5)) else if a2 = (1 : Int32) then ((oGA q5 a0 10 1).bind fun x9 => (oAI q5 x9 .int ((916 : Int32) + a1)).bind fun x11 => some (x11, q5)) else if a2 = (2 : Int32) then ((oGA q5 a0 10 16).bind fun x13 => (oAI q5 x13 .int a1).bind fun x15 => some (x15, q5)) else if a2 = (3 : Int32) then ((oGA q5 a0 10 1).bind fun x17 => (oAI q5 x17 .int ((245 : Int32) + a1)).bind fun x19 => some (x19, q5)) else if a2 = (4 : Int32) then ((oGA q5 a0 10 1).bind fun x21 => (oAI q5 x21 .int ((62 : Int32) + a1)).bind fun x23 => some (x23, q5)) else if a2 = (5 : Int32) then ((oGA q5 a0 10 1).bind fun x25 => (oAI q5 x25 .int ((123 : Int32) + a1)).bind fun x27 => some (x27, q5)) else if a2 = (6 : Int32) then ((F_X10_has q5 a0 a1 (0 : Int32)).bind fun q29 => if q29 = 0 then (some ((0 : Int32), q5)) else (some ((1 : Int32), q5))) else if a2 = (7 : Int32) then ((F_X10_has q5 a0 a1 (1 : Int32)).bind fun q31 => if q31 = 0 then (some ((0 : Int32), q5)) else (some ((1 : Int32), q5))) else if a2 = (8 : Int32) then ((F_X10_in q5 a2 (8 : Int32) (13 : Int32)).bind fun q33 => if q33 = 0 then ((F_X10_fails q5 a0 (2 : Int32)).bind fun q35 => some (q35.1, q35.2)) else ((F_X10_familyOf q5 a0 a1 (a2 - (8 : Int32))).bind fun q37 => some (q37, q5))) else if a2 = (9 : Int32) then ((F_X10_in q5 a2 (8 : Int32) (13 : Int32)).bind fun q39 => if q39 = 0 then ((F_X10_fails q5 a0 (2 : Int32)).bind fun q41 => some (q41.1, q41.2)) else ((F_X10_familyOf q5 a0 a1 (a2 - (8 : Int32))).bind fun q43 => some (q43, q5))) else if a2 = (10 : Int32) then ((F_X10_in q5 a2 (8 : Int32) (13 : Int32)).bind fun q45 => if q45 = 0 then ((F_X10_fails q5 a0 (2 : Int32)).bind fun q47 => some (q47.1, q47.2)) else ((F_X10_familyOf q5 a0 a1 (a2 - (8 : Int32))).bind fun q49 => some (q49, q5))) else if a2 = (11 : Int32) then ((F_X10_in q5 a2 (8 : Int32) (13 : Int32)).bind fun q51 => if q51 = 0 then ((F_X10_fails q5 a0 (2 : Int32)).bind fun q53 => some (q53.1, q53.2)) else ((F_X10_familyOf q5 a0 a1 (a2 - (8 : Int32))).bind fun q55 => some (q55, q5))) else if a2 = (12 : Int32) then ((F_X10_in q5 a2 (8 : Int32) (13 : Int32)).bind fun q57 => if q57 = 0 then ((F_X10_fails q5 a0 (2 : Int32)).bind fun q59 => some (q59.1, q59.2)) else ((F_X10_familyOf q5 a0 a1 (a2 - (8 : Int32))).bind fun q61 => some (q61, q5))) else if a2 = (13 : Int32) then ((F_X10_in q5 a2 (8 : Int32) (13 : Int32)).bind fun q63 => if q63 = 0 then ((F_X10_fails q5 a0 (2 : Int32)).bind fun q65 => some (q65.1, q65.2)) else ((F_X10_familyOf q5 a0 a1 (a2 - (8 : Int32))).bind fun q67 => some (q67, q5))) else if a2 = (14 : Int32) then ((oGA q5 a0 10 17).bind fun x69 => (oAI q5 x69 .int a1).bind fun x71 => some (x71, q5)) else ((F_X10_in q5 a2 (8 : Int32) (13 : Int32)).bind fun q73 => if q73 = 0 then ((F_X10_fails q5 a0 (2 : Int32)).bind fun q75 => some (q75.1, q75.2)) else ((F_X10_familyOf q5 a0 a1 (a2 - (8 : Int32))).bind fun q77 => some (q77, q5)))) else ((F_X10_fails S1 a0 (1 : Int32)).bind fun q79 => some (q79.1, q79.2))
set_option maxRecDepth 100000 in
set_option maxHeartbeats 4000000 in
theorem C_X10_item {X : pX} {Q : pO → Nat → pF → Prop} (S : pS) (a0 : Nat) (a1 : Int32) (a2 : Int32) (r : Int32 × pS) (hf : F_X10_item S a0 a1 a2 = some r) (hk : Q (.inl (some (.int r.1))) r.2.1 r.2.2) : gC X mX10_item [.ref a0, .int a1, .int a2] S.1 S.2 Q 0 0 := by
  refine gC_of (by decide) (Nat.le_of_ble_eq_true rfl) rfl ?_
  change gW _ _ _ [some (.ref a0), some (.int a1), some (.int a2)] _ _ _ _ _ _
  unfold F_X10_item at hf
  obtain ⟨_, _, hf⟩ := obind hf
  refine r_aload_n (pc := 0) dX10_item_0 rfl ?_
  refine r_iconst (pc := 1) (0 : Int32) dX10_item_1 (by decide) ?_
  replace hf := obind hf
  obtain ⟨S1, e2, hf⟩ := hf
  refine q_putI (pc := 2) dX10_item_2 pX10_139 rfl e2 ?_
  refine r_aload_n (pc := 5) dX10_item_5 rfl ?_
  refine r_iload_n (pc := 6) dX10_item_6 rfl ?_
  replace hf := obind hf
  obtain ⟨q3, e4, hf⟩ := hf
  refine q_callV (pc := 7) (v := some (.int q3)) (S' := S1) mX10_isItem 10 [.int a1] dX10_item_7 kX10_146 fX10_isItem iX10_isItem ⟨by decide, by decide⟩ rfl rfl rfl (Nat.le_of_ble_eq_true rfl) (og e4) (mc1 := 0) (ms1 := 0) (mc2 := 0) (ms2 := 0) (by decide) (by decide) (C_X10_isItem S1 a0 a1 q3 e4 (qR_mk _ _)) ?_
  change gW _ _ _ _ (.int q3 :: _) _ _ _ _ _
  refine r_if_ne (pc := 10) 19 dX10_item_10 (by decide) (fun hc => ?_) (fun hc => ?_)
  · rw [if_pos hc] at hf
    refine r_aload_n (pc := 19) dX10_item_19 rfl ?_
    replace hf := obind hf
    obtain ⟨q5, e6, hf⟩ := hf
    refine q_callV (pc := 20) (v := none) (S' := q5) mX10_knows 10 [] dX10_item_20 kX10_169 fX10_knows iX10_knows ⟨by decide, by decide⟩ rfl rfl rfl (Nat.le_of_ble_eq_true rfl) (og e6) (mc1 := 0) (ms1 := 0) (mc2 := 0) (ms2 := 0) (by decide) (by decide) (C_X10_knows S1 a0 q5 e6 (qR_mk _ _)) ?_
    refine r_iload_n (pc := 23) dX10_item_23 rfl ?_
    by_cases hc0 : a2 = (0 : Int32)
    · rw [if_pos hc0] at hf
      refine r_tableIn (pc := 24) 100 dX10_item_24 (by rw [hc0]; decide) (by rw [hc0]; decide) (off := 76) (by rw [hc0]; rfl) (by decide) ?_
      refine r_aload_n (pc := 100) dX10_item_100 rfl ?_
      refine r_iload_n (pc := 101) dX10_item_101 rfl ?_
      replace hf := obind hf
      obtain ⟨q7, e8, hf⟩ := hf
      refine q_callV (pc := 102) (v := some (.int q7)) (S' := q5) mX10_parents 10 [.int a1] dX10_item_102 kX10_276 fX10_parents iX10_parents ⟨by decide, by decide⟩ rfl rfl rfl (Nat.le_of_ble_eq_true rfl) (og e8) (mc1 := 0) (ms1 := 0) (mc2 := 0) (ms2 := 0) (by decide) (by decide) (C_X10_parents q5 a0 a1 q7 e8 (qR_mk _ _)) ?_
      change gW _ _ _ _ (.int q7 :: _) _ _ _ _ _
      refine r_ireturn (pc := 105) .int dX10_item_105 rfl rfl ?_
      cases hf
      exact hk
    rw [if_neg hc0] at hf
    by_cases hc1 : a2 = (1 : Int32)
    · rw [if_pos hc1] at hf
      refine r_tableIn (pc := 24) 106 dX10_item_24 (by rw [hc1]; decide) (by rw [hc1]; decide) (off := 82) (by rw [hc1]; rfl) (by decide) ?_
      refine r_aload_n (pc := 106) dX10_item_106 rfl ?_
      replace hf := obind hf
      obtain ⟨x9, e10, hf⟩ := hf
      refine q_getA (pc := 107) dX10_item_107 gX10_7 e10 ?_
      refine r_sipush (pc := 110) (916 : Int32) dX10_item_110 (by decide) ?_
      refine r_iload_n (pc := 113) dX10_item_113 rfl ?_
      refine r_iadd (pc := 114) dX10_item_114 ?_
      replace hf := obind hf
      obtain ⟨x11, e12, hf⟩ := hf
      refine q_iald (pc := 115) dX10_item_115 e12 ?_
      refine r_ireturn (pc := 116) .int dX10_item_116 rfl rfl ?_
      cases hf
      exact hk
    rw [if_neg hc1] at hf
    by_cases hc2 : a2 = (2 : Int32)
    · rw [if_pos hc2] at hf
      refine r_tableIn (pc := 24) 117 dX10_item_24 (by rw [hc2]; decide) (by rw [hc2]; decide) (off := 93) (by rw [hc2]; rfl) (by decide) ?_
      refine r_aload_n (pc := 117) dX10_item_117 rfl ?_
      replace hf := obind hf
      obtain ⟨x13, e14, hf⟩ := hf
      refine q_getA (pc := 118) dX10_item_118 gX10_41 e14 ?_
      refine r_iload_n (pc := 121) dX10_item_121 rfl ?_
      replace hf := obind hf
      obtain ⟨x15, e16, hf⟩ := hf
      refine q_iald (pc := 122) dX10_item_122 e16 ?_
      refine r_ireturn (pc := 123) .int dX10_item_123 rfl rfl ?_
      cases hf
      exact hk
    rw [if_neg hc2] at hf
    by_cases hc3 : a2 = (3 : Int32)
    · rw [if_pos hc3] at hf
      refine r_tableIn (pc := 24) 124 dX10_item_24 (by rw [hc3]; decide) (by rw [hc3]; decide) (off := 100) (by rw [hc3]; rfl) (by decide) ?_
      refine r_aload_n (pc := 124) dX10_item_124 rfl ?_
      replace hf := obind hf
      obtain ⟨x17, e18, hf⟩ := hf
      refine q_getA (pc := 125) dX10_item_125 gX10_7 e18 ?_
      refine r_sipush (pc := 128) (245 : Int32) dX10_item_128 (by decide) ?_
      refine r_iload_n (pc := 131) dX10_item_131 rfl ?_
      refine r_iadd (pc := 132) dX10_item_132 ?_
      replace hf := obind hf
      obtain ⟨x19, e20, hf⟩ := hf
      refine q_iald (pc := 133) dX10_item_133 e20 ?_
      refine r_ireturn (pc := 134) .int dX10_item_134 rfl rfl ?_
      cases hf
      exact hk
    rw [if_neg hc3] at hf
    by_cases hc4 : a2 = (4 : Int32)
    · rw [if_pos hc4] at hf
      refine r_tableIn (pc := 24) 135 dX10_item_24 (by rw [hc4]; decide) (by rw [hc4]; decide) (off := 111) (by rw [hc4]; rfl) (by decide) ?_
      refine r_aload_n (pc := 135) dX10_item_135 rfl ?_
      replace hf := obind hf
      obtain ⟨x21, e22, hf⟩ := hf
      refine q_getA (pc := 136) dX10_item_136 gX10_7 e22 ?_
      refine r_bipush (pc := 139) (62 : Int32) dX10_item_139 (by decide) ?_
      refine r_iload_n (pc := 141) dX10_item_141 rfl ?_
      refine r_iadd (pc := 142) dX10_item_142 ?_
      replace hf := obind hf
      obtain ⟨x23, e24, hf⟩ := hf
      refine q_iald (pc := 143) dX10_item_143 e24 ?_
      refine r_ireturn (pc := 144) .int dX10_item_144 rfl rfl ?_
      cases hf
      exact hk
    rw [if_neg hc4] at hf
    by_cases hc5 : a2 = (5 : Int32)
    · rw [if_pos hc5] at hf
      refine r_tableIn (pc := 24) 145 dX10_item_24 (by rw [hc5]; decide) (by rw [hc5]; decide) (off := 121) (by rw [hc5]; rfl) (by decide) ?_
      refine r_aload_n (pc := 145) dX10_item_145 rfl ?_
      replace hf := obind hf
      obtain ⟨x25, e26, hf⟩ := hf
      refine q_getA (pc := 146) dX10_item_146 gX10_7 e26 ?_
      refine r_bipush (pc := 149) (123 : Int32) dX10_item_149 (by decide) ?_
      refine r_iload_n (pc := 151) dX10_item_151 rfl ?_
      refine r_iadd (pc := 152) dX10_item_152 ?_
      replace hf := obind hf
      obtain ⟨x27, e28, hf⟩ := hf
      refine q_iald (pc := 153) dX10_item_153 e28 ?_
      refine r_ireturn (pc := 154) .int dX10_item_154 rfl rfl ?_
      cases hf
      exact hk
    rw [if_neg hc5] at hf
    by_cases hc6 : a2 = (6 : Int32)
    · rw [if_pos hc6] at hf
      refine r_tableIn (pc := 24) 155 dX10_item_24 (by rw [hc6]; decide) (by rw [hc6]; decide) (off := 131) (by rw [hc6]; rfl) (by decide) ?_
      refine r_aload_n (pc := 155) dX10_item_155 rfl ?_
      refine r_iload_n (pc := 156) dX10_item_156 rfl ?_
      refine r_iconst (pc := 157) (0 : Int32) dX10_item_157 (by decide) ?_
      replace hf := obind hf
      obtain ⟨q29, e30, hf⟩ := hf
      refine q_callV (pc := 158) (v := some (.int q29)) (S' := q5) mX10_has 10 [.int a1, .int (0 : Int32)] dX10_item_158 kX10_270 fX10_has iX10_has ⟨by decide, by decide⟩ rfl rfl rfl (Nat.le_of_ble_eq_true rfl) (og e30) (mc1 := 0) (ms1 := 0) (mc2 := 0) (ms2 := 0) (by decide) (by decide) (C_X10_has q5 a0 a1 (0 : Int32) q29 e30 (qR_mk _ _)) ?_
      change gW _ _ _ _ (.int q29 :: _) _ _ _ _ _
      refine r_if_eq (pc := 161) 168 dX10_item_161 (by decide) (fun hc => ?_) (fun hc => ?_)
      · rw [if_pos hc] at hf
        refine r_iconst (pc := 168) (0 : Int32) dX10_item_168 (by decide) ?_
        refine r_ireturn (pc := 169) .int dX10_item_169 rfl rfl ?_
        cases hf
        exact hk
      · rw [if_neg hc] at hf
        refine r_iconst (pc := 164) (1 : Int32) dX10_item_164 (by decide) ?_
        refine r_goto (pc := 165) 169 dX10_item_165 (by decide) ?_
        refine r_ireturn (pc := 169) .int dX10_item_169 rfl rfl ?_
        cases hf
        exact hk
    rw [if_neg hc6] at hf
    by_cases hc7 : a2 = (7 : Int32)
    · rw [if_pos hc7] at hf
      refine r_tableIn (pc := 24) 170 dX10_item_24 (by rw [hc7]; decide) (by rw [hc7]; decide) (off := 146) (by rw [hc7]; rfl) (by decide) ?_
      refine r_aload_n (pc := 170) dX10_item_170 rfl ?_
      refine r_iload_n (pc := 171) dX10_item_171 rfl ?_
      refine r_iconst (pc := 172) (1 : Int32) dX10_item_172 (by decide) ?_
      replace hf := obind hf
      obtain ⟨q31, e32, hf⟩ := hf
      refine q_callV (pc := 173) (v := some (.int q31)) (S' := q5) mX10_has 10 [.int a1, .int (1 : Int32)] dX10_item_173 kX10_270 fX10_has iX10_has ⟨by decide, by decide⟩ rfl rfl rfl (Nat.le_of_ble_eq_true rfl) (og e32) (mc1 := 0) (ms1 := 0) (mc2 := 0) (ms2 := 0) (by decide) (by decide) (C_X10_has q5 a0 a1 (1 : Int32) q31 e32 (qR_mk _ _)) ?_
      change gW _ _ _ _ (.int q31 :: _) _ _ _ _ _
      refine r_if_eq (pc := 176) 183 dX10_item_176 (by decide) (fun hc => ?_) (fun hc => ?_)
      · rw [if_pos hc] at hf
        refine r_iconst (pc := 183) (0 : Int32) dX10_item_183 (by decide) ?_
        refine r_ireturn (pc := 184) .int dX10_item_184 rfl rfl ?_
        cases hf
        exact hk
      · rw [if_neg hc] at hf
        refine r_iconst (pc := 179) (1 : Int32) dX10_item_179 (by decide) ?_
        refine r_goto (pc := 180) 184 dX10_item_180 (by decide) ?_
        refine r_ireturn (pc := 184) .int dX10_item_184 rfl rfl ?_
        cases hf
        exact hk
    rw [if_neg hc7] at hf
    by_cases hc8 : a2 = (8 : Int32)
    · rw [if_pos hc8] at hf
      refine r_tableIn (pc := 24) 192 dX10_item_24 (by rw [hc8]; decide) (by rw [hc8]; decide) (off := 168) (by rw [hc8]; rfl) (by decide) ?_
      refine r_iload_n (pc := 192) dX10_item_192 rfl ?_
      refine r_bipush (pc := 193) (8 : Int32) dX10_item_193 (by decide) ?_
      refine r_bipush (pc := 195) (13 : Int32) dX10_item_195 (by decide) ?_
      replace hf := obind hf
      obtain ⟨q33, e34, hf⟩ := hf
      refine q_callS (pc := 197) (v := some (.int q33)) (S' := q5) mX10_in [.int a2, .int (8 : Int32), .int (13 : Int32)] dX10_item_197 kX10_142 fX10_in sX10_in ⟨by decide, by decide⟩ rfl rfl (Nat.le_of_ble_eq_true rfl) (mc1 := 0) (ms1 := 0) (mc2 := 0) (ms2 := 0) (by decide) (by decide) (C_X10_in q5 a2 (8 : Int32) (13 : Int32) q33 e34 (qR_mk _ _)) ?_
      change gW _ _ _ _ (.int q33 :: _) _ _ _ _ _
      refine r_if_eq (pc := 200) 215 dX10_item_200 (by decide) (fun hc => ?_) (fun hc => ?_)
      · rw [if_pos hc] at hf
        refine r_aload_n (pc := 215) dX10_item_215 rfl ?_
        refine r_iconst (pc := 216) (2 : Int32) dX10_item_216 (by decide) ?_
        replace hf := obind hf
        obtain ⟨q35, e36, hf⟩ := hf
        refine q_callV (pc := 217) (v := some (.int q35.1)) (S' := q35.2) mX10_fails 10 [.int (2 : Int32)] dX10_item_217 kX10_186 fX10_fails iX10_fails ⟨by decide, by decide⟩ rfl rfl rfl (Nat.le_of_ble_eq_true rfl) (og e36) (mc1 := 0) (ms1 := 0) (mc2 := 0) (ms2 := 0) (by decide) (by decide) (C_X10_fails q5 a0 (2 : Int32) q35 e36 (qR_mk _ _)) ?_
        change gW _ _ _ _ (.int q35.1 :: _) _ _ _ _ _
        refine r_ireturn (pc := 220) .int dX10_item_220 rfl rfl ?_
        cases hf
        exact hk
      · rw [if_neg hc] at hf
        refine r_aload_n (pc := 203) dX10_item_203 rfl ?_
        refine r_iload_n (pc := 204) dX10_item_204 rfl ?_
        refine r_iload_n (pc := 205) dX10_item_205 rfl ?_
        refine r_bipush (pc := 206) (8 : Int32) dX10_item_206 (by decide) ?_
        refine r_isub (pc := 208) dX10_item_208 ?_
        replace hf := obind hf
        obtain ⟨q37, e38, hf⟩ := hf
        refine q_callV (pc := 209) (v := some (.int q37)) (S' := q5) mX10_familyOf 10 [.int a1, .int (a2 - (8 : Int32))] dX10_item_209 kX10_279 fX10_familyOf iX10_familyOf ⟨by decide, by decide⟩ rfl rfl rfl (Nat.le_of_ble_eq_true rfl) (og e38) (mc1 := 0) (ms1 := 0) (mc2 := 0) (ms2 := 0) (by decide) (by decide) (C_X10_familyOf q5 a0 a1 (a2 - (8 : Int32)) q37 e38 (qR_mk _ _)) ?_
        change gW _ _ _ _ (.int q37 :: _) _ _ _ _ _
        refine r_goto (pc := 212) 220 dX10_item_212 (by decide) ?_
        refine r_ireturn (pc := 220) .int dX10_item_220 rfl rfl ?_
        cases hf
        exact hk
    rw [if_neg hc8] at hf
    by_cases hc9 : a2 = (9 : Int32)
    · rw [if_pos hc9] at hf
      refine r_tableIn (pc := 24) 192 dX10_item_24 (by rw [hc9]; decide) (by rw [hc9]; decide) (off := 168) (by rw [hc9]; rfl) (by decide) ?_
      refine r_iload_n (pc := 192) dX10_item_192 rfl ?_
      refine r_bipush (pc := 193) (8 : Int32) dX10_item_193 (by decide) ?_
      refine r_bipush (pc := 195) (13 : Int32) dX10_item_195 (by decide) ?_
      replace hf := obind hf
      obtain ⟨q39, e40, hf⟩ := hf
      refine q_callS (pc := 197) (v := some (.int q39)) (S' := q5) mX10_in [.int a2, .int (8 : Int32), .int (13 : Int32)] dX10_item_197 kX10_142 fX10_in sX10_in ⟨by decide, by decide⟩ rfl rfl (Nat.le_of_ble_eq_true rfl) (mc1 := 0) (ms1 := 0) (mc2 := 0) (ms2 := 0) (by decide) (by decide) (C_X10_in q5 a2 (8 : Int32) (13 : Int32) q39 e40 (qR_mk _ _)) ?_
      change gW _ _ _ _ (.int q39 :: _) _ _ _ _ _
      refine r_if_eq (pc := 200) 215 dX10_item_200 (by decide) (fun hc => ?_) (fun hc => ?_)
      · rw [if_pos hc] at hf
        refine r_aload_n (pc := 215) dX10_item_215 rfl ?_
        refine r_iconst (pc := 216) (2 : Int32) dX10_item_216 (by decide) ?_
        replace hf := obind hf
        obtain ⟨q41, e42, hf⟩ := hf
        refine q_callV (pc := 217) (v := some (.int q41.1)) (S' := q41.2) mX10_fails 10 [.int (2 : Int32)] dX10_item_217 kX10_186 fX10_fails iX10_fails ⟨by decide, by decide⟩ rfl rfl rfl (Nat.le_of_ble_eq_true rfl) (og e42) (mc1 := 0) (ms1 := 0) (mc2 := 0) (ms2 := 0) (by decide) (by decide) (C_X10_fails q5 a0 (2 : Int32) q41 e42 (qR_mk _ _)) ?_
        change gW _ _ _ _ (.int q41.1 :: _) _ _ _ _ _
        refine r_ireturn (pc := 220) .int dX10_item_220 rfl rfl ?_
        cases hf
        exact hk
      · rw [if_neg hc] at hf
        refine r_aload_n (pc := 203) dX10_item_203 rfl ?_
        refine r_iload_n (pc := 204) dX10_item_204 rfl ?_
        refine r_iload_n (pc := 205) dX10_item_205 rfl ?_
        refine r_bipush (pc := 206) (8 : Int32) dX10_item_206 (by decide) ?_
        refine r_isub (pc := 208) dX10_item_208 ?_
        replace hf := obind hf
        obtain ⟨q43, e44, hf⟩ := hf
        refine q_callV (pc := 209) (v := some (.int q43)) (S' := q5) mX10_familyOf 10 [.int a1, .int (a2 - (8 : Int32))] dX10_item_209 kX10_279 fX10_familyOf iX10_familyOf ⟨by decide, by decide⟩ rfl rfl rfl (Nat.le_of_ble_eq_true rfl) (og e44) (mc1 := 0) (ms1 := 0) (mc2 := 0) (ms2 := 0) (by decide) (by decide) (C_X10_familyOf q5 a0 a1 (a2 - (8 : Int32)) q43 e44 (qR_mk _ _)) ?_
        change gW _ _ _ _ (.int q43 :: _) _ _ _ _ _
        refine r_goto (pc := 212) 220 dX10_item_212 (by decide) ?_
        refine r_ireturn (pc := 220) .int dX10_item_220 rfl rfl ?_
        cases hf
        exact hk
    rw [if_neg hc9] at hf
    by_cases hc10 : a2 = (10 : Int32)
    · rw [if_pos hc10] at hf
      refine r_tableIn (pc := 24) 192 dX10_item_24 (by rw [hc10]; decide) (by rw [hc10]; decide) (off := 168) (by rw [hc10]; rfl) (by decide) ?_
      refine r_iload_n (pc := 192) dX10_item_192 rfl ?_
      refine r_bipush (pc := 193) (8 : Int32) dX10_item_193 (by decide) ?_
      refine r_bipush (pc := 195) (13 : Int32) dX10_item_195 (by decide) ?_
      replace hf := obind hf
      obtain ⟨q45, e46, hf⟩ := hf
      refine q_callS (pc := 197) (v := some (.int q45)) (S' := q5) mX10_in [.int a2, .int (8 : Int32), .int (13 : Int32)] dX10_item_197 kX10_142 fX10_in sX10_in ⟨by decide, by decide⟩ rfl rfl (Nat.le_of_ble_eq_true rfl) (mc1 := 0) (ms1 := 0) (mc2 := 0) (ms2 := 0) (by decide) (by decide) (C_X10_in q5 a2 (8 : Int32) (13 : Int32) q45 e46 (qR_mk _ _)) ?_
      change gW _ _ _ _ (.int q45 :: _) _ _ _ _ _
      refine r_if_eq (pc := 200) 215 dX10_item_200 (by decide) (fun hc => ?_) (fun hc => ?_)
      · rw [if_pos hc] at hf
        refine r_aload_n (pc := 215) dX10_item_215 rfl ?_
        refine r_iconst (pc := 216) (2 : Int32) dX10_item_216 (by decide) ?_
        replace hf := obind hf
        obtain ⟨q47, e48, hf⟩ := hf
        refine q_callV (pc := 217) (v := some (.int q47.1)) (S' := q47.2) mX10_fails 10 [.int (2 : Int32)] dX10_item_217 kX10_186 fX10_fails iX10_fails ⟨by decide, by decide⟩ rfl rfl rfl (Nat.le_of_ble_eq_true rfl) (og e48) (mc1 := 0) (ms1 := 0) (mc2 := 0) (ms2 := 0) (by decide) (by decide) (C_X10_fails q5 a0 (2 : Int32) q47 e48 (qR_mk _ _)) ?_
        change gW _ _ _ _ (.int q47.1 :: _) _ _ _ _ _
        refine r_ireturn (pc := 220) .int dX10_item_220 rfl rfl ?_
        cases hf
        exact hk
      · rw [if_neg hc] at hf
        refine r_aload_n (pc := 203) dX10_item_203 rfl ?_
        refine r_iload_n (pc := 204) dX10_item_204 rfl ?_
        refine r_iload_n (pc := 205) dX10_item_205 rfl ?_
        refine r_bipush (pc := 206) (8 : Int32) dX10_item_206 (by decide) ?_
        refine r_isub (pc := 208) dX10_item_208 ?_
        replace hf := obind hf
        obtain ⟨q49, e50, hf⟩ := hf
        refine q_callV (pc := 209) (v := some (.int q49)) (S' := q5) mX10_familyOf 10 [.int a1, .int (a2 - (8 : Int32))] dX10_item_209 kX10_279 fX10_familyOf iX10_familyOf ⟨by decide, by decide⟩ rfl rfl rfl (Nat.le_of_ble_eq_true rfl) (og e50) (mc1 := 0) (ms1 := 0) (mc2 := 0) (ms2 := 0) (by decide) (by decide) (C_X10_familyOf q5 a0 a1 (a2 - (8 : Int32)) q49 e50 (qR_mk _ _)) ?_
        change gW _ _ _ _ (.int q49 :: _) _ _ _ _ _
        refine r_goto (pc := 212) 220 dX10_item_212 (by decide) ?_
        refine r_ireturn (pc := 220) .int dX10_item_220 rfl rfl ?_
        cases hf
        exact hk
    rw [if_neg hc10] at hf
    by_cases hc11 : a2 = (11 : Int32)
    · rw [if_pos hc11] at hf
      refine r_tableIn (pc := 24) 192 dX10_item_24 (by rw [hc11]; decide) (by rw [hc11]; decide) (off := 168) (by rw [hc11]; rfl) (by decide) ?_
      refine r_iload_n (pc := 192) dX10_item_192 rfl ?_
      refine r_bipush (pc := 193) (8 : Int32) dX10_item_193 (by decide) ?_
      refine r_bipush (pc := 195) (13 : Int32) dX10_item_195 (by decide) ?_
      replace hf := obind hf
      obtain ⟨q51, e52, hf⟩ := hf
      refine q_callS (pc := 197) (v := some (.int q51)) (S' := q5) mX10_in [.int a2, .int (8 : Int32), .int (13 : Int32)] dX10_item_197 kX10_142 fX10_in sX10_in ⟨by decide, by decide⟩ rfl rfl (Nat.le_of_ble_eq_true rfl) (mc1 := 0) (ms1 := 0) (mc2 := 0) (ms2 := 0) (by decide) (by decide) (C_X10_in q5 a2 (8 : Int32) (13 : Int32) q51 e52 (qR_mk _ _)) ?_
      change gW _ _ _ _ (.int q51 :: _) _ _ _ _ _
      refine r_if_eq (pc := 200) 215 dX10_item_200 (by decide) (fun hc => ?_) (fun hc => ?_)
      · rw [if_pos hc] at hf
        refine r_aload_n (pc := 215) dX10_item_215 rfl ?_
        refine r_iconst (pc := 216) (2 : Int32) dX10_item_216 (by decide) ?_
        replace hf := obind hf
        obtain ⟨q53, e54, hf⟩ := hf
        refine q_callV (pc := 217) (v := some (.int q53.1)) (S' := q53.2) mX10_fails 10 [.int (2 : Int32)] dX10_item_217 kX10_186 fX10_fails iX10_fails ⟨by decide, by decide⟩ rfl rfl rfl (Nat.le_of_ble_eq_true rfl) (og e54) (mc1 := 0) (ms1 := 0) (mc2 := 0) (ms2 := 0) (by decide) (by decide) (C_X10_fails q5 a0 (2 : Int32) q53 e54 (qR_mk _ _)) ?_
        change gW _ _ _ _ (.int q53.1 :: _) _ _ _ _ _
        refine r_ireturn (pc := 220) .int dX10_item_220 rfl rfl ?_
        cases hf
        exact hk
      · rw [if_neg hc] at hf
        refine r_aload_n (pc := 203) dX10_item_203 rfl ?_
        refine r_iload_n (pc := 204) dX10_item_204 rfl ?_
        refine r_iload_n (pc := 205) dX10_item_205 rfl ?_
        refine r_bipush (pc := 206) (8 : Int32) dX10_item_206 (by decide) ?_
        refine r_isub (pc := 208) dX10_item_208 ?_
        replace hf := obind hf
        obtain ⟨q55, e56, hf⟩ := hf
        refine q_callV (pc := 209) (v := some (.int q55)) (S' := q5) mX10_familyOf 10 [.int a1, .int (a2 - (8 : Int32))] dX10_item_209 kX10_279 fX10_familyOf iX10_familyOf ⟨by decide, by decide⟩ rfl rfl rfl (Nat.le_of_ble_eq_true rfl) (og e56) (mc1 := 0) (ms1 := 0) (mc2 := 0) (ms2 := 0) (by decide) (by decide) (C_X10_familyOf q5 a0 a1 (a2 - (8 : Int32)) q55 e56 (qR_mk _ _)) ?_
        change gW _ _ _ _ (.int q55 :: _) _ _ _ _ _
        refine r_goto (pc := 212) 220 dX10_item_212 (by decide) ?_
        refine r_ireturn (pc := 220) .int dX10_item_220 rfl rfl ?_
        cases hf
        exact hk
    rw [if_neg hc11] at hf
    by_cases hc12 : a2 = (12 : Int32)
    · rw [if_pos hc12] at hf
      refine r_tableIn (pc := 24) 192 dX10_item_24 (by rw [hc12]; decide) (by rw [hc12]; decide) (off := 168) (by rw [hc12]; rfl) (by decide) ?_
      refine r_iload_n (pc := 192) dX10_item_192 rfl ?_
      refine r_bipush (pc := 193) (8 : Int32) dX10_item_193 (by decide) ?_
      refine r_bipush (pc := 195) (13 : Int32) dX10_item_195 (by decide) ?_
      replace hf := obind hf
      obtain ⟨q57, e58, hf⟩ := hf
      refine q_callS (pc := 197) (v := some (.int q57)) (S' := q5) mX10_in [.int a2, .int (8 : Int32), .int (13 : Int32)] dX10_item_197 kX10_142 fX10_in sX10_in ⟨by decide, by decide⟩ rfl rfl (Nat.le_of_ble_eq_true rfl) (mc1 := 0) (ms1 := 0) (mc2 := 0) (ms2 := 0) (by decide) (by decide) (C_X10_in q5 a2 (8 : Int32) (13 : Int32) q57 e58 (qR_mk _ _)) ?_
      change gW _ _ _ _ (.int q57 :: _) _ _ _ _ _
      refine r_if_eq (pc := 200) 215 dX10_item_200 (by decide) (fun hc => ?_) (fun hc => ?_)
      · rw [if_pos hc] at hf
        refine r_aload_n (pc := 215) dX10_item_215 rfl ?_
        refine r_iconst (pc := 216) (2 : Int32) dX10_item_216 (by decide) ?_
        replace hf := obind hf
        obtain ⟨q59, e60, hf⟩ := hf
        refine q_callV (pc := 217) (v := some (.int q59.1)) (S' := q59.2) mX10_fails 10 [.int (2 : Int32)] dX10_item_217 kX10_186 fX10_fails iX10_fails ⟨by decide, by decide⟩ rfl rfl rfl (Nat.le_of_ble_eq_true rfl) (og e60) (mc1 := 0) (ms1 := 0) (mc2 := 0) (ms2 := 0) (by decide) (by decide) (C_X10_fails q5 a0 (2 : Int32) q59 e60 (qR_mk _ _)) ?_
        change gW _ _ _ _ (.int q59.1 :: _) _ _ _ _ _
        refine r_ireturn (pc := 220) .int dX10_item_220 rfl rfl ?_
        cases hf
        exact hk
      · rw [if_neg hc] at hf
        refine r_aload_n (pc := 203) dX10_item_203 rfl ?_
        refine r_iload_n (pc := 204) dX10_item_204 rfl ?_
        refine r_iload_n (pc := 205) dX10_item_205 rfl ?_
        refine r_bipush (pc := 206) (8 : Int32) dX10_item_206 (by decide) ?_
        refine r_isub (pc := 208) dX10_item_208 ?_
        replace hf := obind hf
        obtain ⟨q61, e62, hf⟩ := hf
        refine q_callV (pc := 209) (v := some (.int q61)) (S' := q5) mX10_familyOf 10 [.int a1, .int (a2 - (8 : Int32))] dX10_item_209 kX10_279 fX10_familyOf iX10_familyOf ⟨by decide, by decide⟩ rfl rfl rfl (Nat.le_of_ble_eq_true rfl) (og e62) (mc1 := 0) (ms1 := 0) (mc2 := 0) (ms2 := 0) (by decide) (by decide) (C_X10_familyOf q5 a0 a1 (a2 - (8 : Int32)) q61 e62 (qR_mk _ _)) ?_
        change gW _ _ _ _ (.int q61 :: _) _ _ _ _ _
        refine r_goto (pc := 212) 220 dX10_item_212 (by decide) ?_
        refine r_ireturn (pc := 220) .int dX10_item_220 rfl rfl ?_
        cases hf
        exact hk
    rw [if_neg hc12] at hf
    by_cases hc13 : a2 = (13 : Int32)
    · rw [if_pos hc13] at hf
      refine r_tableIn (pc := 24) 192 dX10_item_24 (by rw [hc13]; decide) (by rw [hc13]; decide) (off := 168) (by rw [hc13]; rfl) (by decide) ?_
      refine r_iload_n (pc := 192) dX10_item_192 rfl ?_
      refine r_bipush (pc := 193) (8 : Int32) dX10_item_193 (by decide) ?_
      refine r_bipush (pc := 195) (13 : Int32) dX10_item_195 (by decide) ?_
      replace hf := obind hf
      obtain ⟨q63, e64, hf⟩ := hf
      refine q_callS (pc := 197) (v := some (.int q63)) (S' := q5) mX10_in [.int a2, .int (8 : Int32), .int (13 : Int32)] dX10_item_197 kX10_142 fX10_in sX10_in ⟨by decide, by decide⟩ rfl rfl (Nat.le_of_ble_eq_true rfl) (mc1 := 0) (ms1 := 0) (mc2 := 0) (ms2 := 0) (by decide) (by decide) (C_X10_in q5 a2 (8 : Int32) (13 : Int32) q63 e64 (qR_mk _ _)) ?_
      change gW _ _ _ _ (.int q63 :: _) _ _ _ _ _
      refine r_if_eq (pc := 200) 215 dX10_item_200 (by decide) (fun hc => ?_) (fun hc => ?_)
      · rw [if_pos hc] at hf
        refine r_aload_n (pc := 215) dX10_item_215 rfl ?_
        refine r_iconst (pc := 216) (2 : Int32) dX10_item_216 (by decide) ?_
        replace hf := obind hf
        obtain ⟨q65, e66, hf⟩ := hf
        refine q_callV (pc := 217) (v := some (.int q65.1)) (S' := q65.2) mX10_fails 10 [.int (2 : Int32)] dX10_item_217 kX10_186 fX10_fails iX10_fails ⟨by decide, by decide⟩ rfl rfl rfl (Nat.le_of_ble_eq_true rfl) (og e66) (mc1 := 0) (ms1 := 0) (mc2 := 0) (ms2 := 0) (by decide) (by decide) (C_X10_fails q5 a0 (2 : Int32) q65 e66 (qR_mk _ _)) ?_
        change gW _ _ _ _ (.int q65.1 :: _) _ _ _ _ _
        refine r_ireturn (pc := 220) .int dX10_item_220 rfl rfl ?_
        cases hf
        exact hk
      · rw [if_neg hc] at hf
        refine r_aload_n (pc := 203) dX10_item_203 rfl ?_
        refine r_iload_n (pc := 204) dX10_item_204 rfl ?_
        refine r_iload_n (pc := 205) dX10_item_205 rfl ?_
        refine r_bipush (pc := 206) (8 : Int32) dX10_item_206 (by decide) ?_
        refine r_isub (pc := 208) dX10_item_208 ?_
        replace hf := obind hf
        obtain ⟨q67, e68, hf⟩ := hf
        refine q_callV (pc := 209) (v := some (.int q67)) (S' := q5) mX10_familyOf 10 [.int a1, .int (a2 - (8 : Int32))] dX10_item_209 kX10_279 fX10_familyOf iX10_familyOf ⟨by decide, by decide⟩ rfl rfl rfl (Nat.le_of_ble_eq_true rfl) (og e68) (mc1 := 0) (ms1 := 0) (mc2 := 0) (ms2 := 0) (by decide) (by decide) (C_X10_familyOf q5 a0 a1 (a2 - (8 : Int32)) q67 e68 (qR_mk _ _)) ?_
        change gW _ _ _ _ (.int q67 :: _) _ _ _ _ _
        refine r_goto (pc := 212) 220 dX10_item_212 (by decide) ?_
        refine r_ireturn (pc := 220) .int dX10_item_220 rfl rfl ?_
        cases hf
        exact hk
    rw [if_neg hc13] at hf
    by_cases hc14 : a2 = (14 : Int32)
    · rw [if_pos hc14] at hf
      refine r_tableIn (pc := 24) 185 dX10_item_24 (by rw [hc14]; decide) (by rw [hc14]; decide) (off := 161) (by rw [hc14]; rfl) (by decide) ?_
      refine r_aload_n (pc := 185) dX10_item_185 rfl ?_
      replace hf := obind hf
      obtain ⟨x69, e70, hf⟩ := hf
      refine q_getA (pc := 186) dX10_item_186 gX10_44 e70 ?_
      refine r_iload_n (pc := 189) dX10_item_189 rfl ?_
      replace hf := obind hf
      obtain ⟨x71, e72, hf⟩ := hf
      refine q_iald (pc := 190) dX10_item_190 e72 ?_
      refine r_ireturn (pc := 191) .int dX10_item_191 rfl rfl ?_
      cases hf
      exact hk
    rw [if_neg hc14] at hf
    refine r_tableOut (pc := 24) 192 dX10_item_24 (by
      have := tsw_out a2 (0) 15 (fun j hj => by
        match j, hj with
        | 0, _ => exact hc0
        | 1, _ => exact hc1
        | 2, _ => exact hc2
        | 3, _ => exact hc3
        | 4, _ => exact hc4
        | 5, _ => exact hc5
        | 6, _ => exact hc6
        | 7, _ => exact hc7
        | 8, _ => exact hc8
        | 9, _ => exact hc9
        | 10, _ => exact hc10
        | 11, _ => exact hc11
        | 12, _ => exact hc12
        | 13, _ => exact hc13
        | 14, _ => exact hc14
        | j + 15, hj => exact absurd hj (by omega))
      simpa using this) (by decide) ?_
    refine r_iload_n (pc := 192) dX10_item_192 rfl ?_
    refine r_bipush (pc := 193) (8 : Int32) dX10_item_193 (by decide) ?_
    refine r_bipush (pc := 195) (13 : Int32) dX10_item_195 (by decide) ?_
    replace hf := obind hf
    obtain ⟨q73, e74, hf⟩ := hf
    refine q_callS (pc := 197) (v := some (.int q73)) (S' := q5) mX10_in [.int a2, .int (8 : Int32), .int (13 : Int32)] dX10_item_197 kX10_142 fX10_in sX10_in ⟨by decide, by decide⟩ rfl rfl (Nat.le_of_ble_eq_true rfl) (mc1 := 0) (ms1 := 0) (mc2 := 0) (ms2 := 0) (by decide) (by decide) (C_X10_in q5 a2 (8 : Int32) (13 : Int32) q73 e74 (qR_mk _ _)) ?_
    change gW _ _ _ _ (.int q73 :: _) _ _ _ _ _
    refine r_if_eq (pc := 200) 215 dX10_item_200 (by decide) (fun hc => ?_) (fun hc => ?_)
    · rw [if_pos hc] at hf
      refine r_aload_n (pc := 215) dX10_item_215 rfl ?_
      refine r_iconst (pc := 216) (2 : Int32) dX10_item_216 (by decide) ?_
      replace hf := obind hf
      obtain ⟨q75, e76, hf⟩ := hf
      refine q_callV (pc := 217) (v := some (.int q75.1)) (S' := q75.2) mX10_fails 10 [.int (2 : Int32)] dX10_item_217 kX10_186 fX10_fails iX10_fails ⟨by decide, by decide⟩ rfl rfl rfl (Nat.le_of_ble_eq_true rfl) (og e76) (mc1 := 0) (ms1 := 0) (mc2 := 0) (ms2 := 0) (by decide) (by decide) (C_X10_fails q5 a0 (2 : Int32) q75 e76 (qR_mk _ _)) ?_
      change gW _ _ _ _ (.int q75.1 :: _) _ _ _ _ _
      refine r_ireturn (pc := 220) .int dX10_item_220 rfl rfl ?_
      cases hf
      exact hk
    · rw [if_neg hc] at hf
      refine r_aload_n (pc := 203) dX10_item_203 rfl ?_
      refine r_iload_n (pc := 204) dX10_item_204 rfl ?_
      refine r_iload_n (pc := 205) dX10_item_205 rfl ?_
      refine r_bipush (pc := 206) (8 : Int32) dX10_item_206 (by decide) ?_
      refine r_isub (pc := 208) dX10_item_208 ?_
      replace hf := obind hf
      obtain ⟨q77, e78, hf⟩ := hf
      refine q_callV (pc := 209) (v := some (.int q77)) (S' := q5) mX10_familyOf 10 [.int a1, .int (a2 - (8 : Int32))] dX10_item_209 kX10_279 fX10_familyOf iX10_familyOf ⟨by decide, by decide⟩ rfl rfl rfl (Nat.le_of_ble_eq_true rfl) (og e78) (mc1 := 0) (ms1 := 0) (mc2 := 0) (ms2 := 0) (by decide) (by decide) (C_X10_familyOf q5 a0 a1 (a2 - (8 : Int32)) q77 e78 (qR_mk _ _)) ?_
      change gW _ _ _ _ (.int q77 :: _) _ _ _ _ _
      refine r_goto (pc := 212) 220 dX10_item_212 (by decide) ?_
      refine r_ireturn (pc := 220) .int dX10_item_220 rfl rfl ?_
      cases hf
      exact hk
  · rw [if_neg hc] at hf
    refine r_aload_n (pc := 13) dX10_item_13 rfl ?_
    refine r_iconst (pc := 14) (1 : Int32) dX10_item_14 (by decide) ?_
    replace hf := obind hf
    obtain ⟨q79, e80, hf⟩ := hf
    refine q_callV (pc := 15) (v := some (.int q79.1)) (S' := q79.2) mX10_fails 10 [.int (1 : Int32)] dX10_item_15 kX10_186 fX10_fails iX10_fails ⟨by decide, by decide⟩ rfl rfl rfl (Nat.le_of_ble_eq_true rfl) (og e80) (mc1 := 0) (ms1 := 0) (mc2 := 0) (ms2 := 0) (by decide) (by decide) (C_X10_fails S1 a0 (1 : Int32) q79 e80 (qR_mk _ _)) ?_
    change gW _ _ _ _ (.int q79.1 :: _) _ _ _ _ _
    refine r_ireturn (pc := 18) .int dX10_item_18 rfl rfl ?_
    cases hf
    exact hk
abbrev L_X10_related_64 (l0 : Nat) (l1 : Int32) (l2 : Int32) (S : pS) : Int32 × Int32 → List (Option Value) := fun a => [some (.ref l0), some (.int l1), some (.int l2), none, some (.int a.1), some (.int a.2)]
abbrev s_X10_related_64 (l0 : Nat) (l1 : Int32) (l2 : Int32) (S : pS) : Int32 × Int32 → pS := fun a => S
abbrev K_X10_related_64 (X : pX) (Q : pO → Nat → pF → Prop) (mc ms : Nat) (l0 : Nat) (l1 : Int32) (l2 : Int32) (S : pS) : (Int32) ⊕ (Unit) → Prop := (Sum.elim (fun b => gW X mX10_related 97 [some (.ref l0), some (.int l1), some (.int l2), none, none, some (.int b)] [] S.1 S.2 Q mc ms) (fun b => gW X mX10_related 109 [some (.ref l0), some (.int l1), some (.int l2), none, none, none] [] S.1 S.2 Q mc ms))
def F_X10_related_64 (l0 : Nat) (l1 : Int32) (l2 : Int32) (S : pS) : Int32 × Int32 → Option ((Int32 × Int32) ⊕ ((Int32) ⊕ (Unit))) := fun a => if (61 : Int32) ≤ a.2 then (some (.inr (.inr ()))) else ((F_X10_isItem S l0 a.2).bind fun q5 => if q5 = 0 then (some (.inl (a.1, a.2 + (1 : Int32)))) else ((F_X10_indexOf S l0 a.2 l1).bind fun q7 => if q7 = (-1 : Int32) then (some (.inl (a.1, a.2 + (1 : Int32)))) else (if ¬ a.1 = l2 then (some (.inl (a.1 + (1 : Int32), a.2 + (1 : Int32)))) else (some (.inr (.inl a.2))))))
set_option maxRecDepth 100000 in
set_option maxHeartbeats 4000000 in
theorem W_X10_related_64 {X : pX} {Q : pO → Nat → pF → Prop} {mc ms : Nat} (l0 : Nat) (l1 : Int32) (l2 : Int32) (S : pS) : ∀ (a : Int32 × Int32) (r : (Int32 × Int32) ⊕ ((Int32) ⊕ (Unit))), F_X10_related_64 l0 l1 l2 S a = some r → Sum.elim (fun a' => gW X mX10_related 64 (L_X10_related_64 l0 l1 l2 S a') [] (s_X10_related_64 l0 l1 l2 S a').1 (s_X10_related_64 l0 l1 l2 S a').2 Q mc ms) (K_X10_related_64 X Q mc ms l0 l1 l2 S) r → gW X mX10_related 64 (L_X10_related_64 l0 l1 l2 S a) [] (s_X10_related_64 l0 l1 l2 S a).1 (s_X10_related_64 l0 l1 l2 S a).2 Q mc ms := by
  intro a r hf hk
  obtain ⟨l4, l5⟩ := a
  unfold F_X10_related_64 at hf
  try dsimp only at hf
  change gW _ _ _ [some (.ref l0), some (.int l1), some (.int l2), none, some (.int l4), some (.int l5)] _ S.1 S.2 _ _ _
  refine r_iload (pc := 64) dX10_related_64 rfl ?_
  refine r_bipush (pc := 66) (61 : Int32) dX10_related_66 (by decide) ?_
  refine r_icmp_ge (pc := 68) 109 dX10_related_68 (by decide) (fun hc => ?_) (fun hc => ?_)
  · rw [if_pos hc] at hf
    cases hf
    exact gW.weak (by simp [gle]) hk
  · rw [if_neg hc] at hf
    refine r_aload_n (pc := 71) dX10_related_71 rfl ?_
    refine r_iload (pc := 72) dX10_related_72 rfl ?_
    replace hf := obind hf
    obtain ⟨q5, e6, hf⟩ := hf
    refine q_callV (pc := 74) (v := some (.int q5)) (S' := S) mX10_isItem 10 [.int l5] dX10_related_74 kX10_146 fX10_isItem iX10_isItem ⟨by decide, by decide⟩ rfl rfl rfl (Nat.le_of_ble_eq_true rfl) (og e6) (mc1 := 0) (ms1 := 0) (mc2 := mc) (ms2 := ms) (by omega) (by omega) (C_X10_isItem S l0 l5 q5 e6 (qR_mk _ _)) ?_
    change gW _ _ _ _ (.int q5 :: _) _ _ _ _ _
    refine r_if_eq (pc := 77) 103 dX10_related_77 (by decide) (fun hc => ?_) (fun hc => ?_)
    · rw [if_pos hc] at hf
      refine r_iinc (pc := 103) dX10_related_103 rfl (by decide) ?_
      change gW _ _ _ [some (.ref l0), some (.int l1), some (.int l2), none, some (.int l4), some (.int (l5 + (1 : Int32)))] _ _ _ _ _ _
      refine r_goto (pc := 106) 64 dX10_related_106 (by decide) ?_
      cases hf
      exact gW.weak (by simp [gle]) hk
    · rw [if_neg hc] at hf
      refine r_aload_n (pc := 80) dX10_related_80 rfl ?_
      refine r_iload (pc := 81) dX10_related_81 rfl ?_
      refine r_iload_n (pc := 83) dX10_related_83 rfl ?_
      replace hf := obind hf
      obtain ⟨q7, e8, hf⟩ := hf
      refine q_callV (pc := 84) (v := some (.int q7)) (S' := S) mX10_indexOf 10 [.int l5, .int l1] dX10_related_84 kX10_172 fX10_indexOf iX10_indexOf ⟨by decide, by decide⟩ rfl rfl rfl (Nat.le_of_ble_eq_true rfl) (og e8) (mc1 := 0) (ms1 := 0) (mc2 := mc) (ms2 := ms) (by omega) (by omega) (C_X10_indexOf S l0 l5 l1 q7 e8 (qR_mk _ _)) ?_
      change gW _ _ _ _ (.int q7 :: _) _ _ _ _ _
      refine r_iconst (pc := 87) (-1 : Int32) dX10_related_87 (by decide) ?_
      refine r_icmp_eq (pc := 88) 103 dX10_related_88 (by decide) (fun hc => ?_) (fun hc => ?_)
      · rw [if_pos hc] at hf
        refine r_iinc (pc := 103) dX10_related_103 rfl (by decide) ?_
        change gW _ _ _ [some (.ref l0), some (.int l1), some (.int l2), none, some (.int l4), some (.int (l5 + (1 : Int32)))] _ _ _ _ _ _
        refine r_goto (pc := 106) 64 dX10_related_106 (by decide) ?_
        cases hf
        exact gW.weak (by simp [gle]) hk
      · rw [if_neg hc] at hf
        refine r_iload (pc := 91) dX10_related_91 rfl ?_
        refine r_iload_n (pc := 93) dX10_related_93 rfl ?_
        refine r_icmp_ne (pc := 94) 100 dX10_related_94 (by decide) (fun hc => ?_) (fun hc => ?_)
        · rw [if_pos hc] at hf
          refine r_iinc (pc := 100) dX10_related_100 rfl (by decide) ?_
          change gW _ _ _ [some (.ref l0), some (.int l1), some (.int l2), none, some (.int (l4 + (1 : Int32))), some (.int l5)] _ _ _ _ _ _
          refine r_iinc (pc := 103) dX10_related_103 rfl (by decide) ?_
          change gW _ _ _ [some (.ref l0), some (.int l1), some (.int l2), none, some (.int (l4 + (1 : Int32))), some (.int (l5 + (1 : Int32)))] _ _ _ _ _ _
          refine r_goto (pc := 106) 64 dX10_related_106 (by decide) ?_
          cases hf
          exact gW.weak (by simp [gle]) hk
        · rw [if_neg hc] at hf
          cases hf
          exact gW.weak (by simp [gle]) hk
def F_X10_related (S : pS) (a0 : Nat) (a1 : Int32) (a2 : Int32) (a3 : Int32) : Option (Int32 × pS) := (oF S a0 10).bind fun _ => (oPI S a0 10 0 (0 : Int32)).bind fun S1 => (F_X10_isItem S1 a0 a1).bind fun q3 => if ¬ q3 = 0 then (if ¬ a3 = 0 then ((iter (F_X10_related_64 a0 a1 a2 S1) fu ((0 : Int32), (0 : Int32))).bind fun r9 => Sum.elim (fun q11 => some (q11, S1)) (fun q11 => (F_X10_fails S1 a0 (2 : Int32)).bind fun q12 => some (q12.1, q12.2)) r9) else ((oGA S1 a0 10 1).bind fun x14 => (oAI S1 x14 .int ((916 : Int32) + a1)).bind fun x16 => (F_X10_in S1 a2 (0 : Int32) (x16 - (1 : Int32))).bind fun q18 => if q18 = 0 then ((F_X10_fails S1 a0 (2 : Int32)).bind fun q20 => some (q20.1, q20.2)) else ((F_X10_child S1 a0 a1 a2).bind fun q22 => some (q22, S1)))) else ((F_X10_fails S1 a0 (1 : Int32)).bind fun q24 => some (q24.1, q24.2))
set_option maxRecDepth 100000 in
set_option maxHeartbeats 4000000 in
theorem C_X10_related {X : pX} {Q : pO → Nat → pF → Prop} (S : pS) (a0 : Nat) (a1 : Int32) (a2 : Int32) (a3 : Int32) (r : Int32 × pS) (hf : F_X10_related S a0 a1 a2 a3 = some r) (hk : Q (.inl (some (.int r.1))) r.2.1 r.2.2) : gC X mX10_related [.ref a0, .int a1, .int a2, .int a3] S.1 S.2 Q 0 0 := by
  refine gC_of (by decide) (Nat.le_of_ble_eq_true rfl) rfl ?_
  change gW _ _ _ [some (.ref a0), some (.int a1), some (.int a2), some (.int a3), none, none] _ _ _ _ _ _
  unfold F_X10_related at hf
  obtain ⟨_, _, hf⟩ := obind hf
  refine r_aload_n (pc := 0) dX10_related_0 rfl ?_
  refine r_iconst (pc := 1) (0 : Int32) dX10_related_1 (by decide) ?_
  replace hf := obind hf
  obtain ⟨S1, e2, hf⟩ := hf
  refine q_putI (pc := 2) dX10_related_2 pX10_139 rfl e2 ?_
  refine r_aload_n (pc := 5) dX10_related_5 rfl ?_
  refine r_iload_n (pc := 6) dX10_related_6 rfl ?_
  replace hf := obind hf
  obtain ⟨q3, e4, hf⟩ := hf
  refine q_callV (pc := 7) (v := some (.int q3)) (S' := S1) mX10_isItem 10 [.int a1] dX10_related_7 kX10_146 fX10_isItem iX10_isItem ⟨by decide, by decide⟩ rfl rfl rfl (Nat.le_of_ble_eq_true rfl) (og e4) (mc1 := 0) (ms1 := 0) (mc2 := 0) (ms2 := 0) (by decide) (by decide) (C_X10_isItem S1 a0 a1 q3 e4 (qR_mk _ _)) ?_
  change gW _ _ _ _ (.int q3 :: _) _ _ _ _ _
  refine r_if_ne (pc := 10) 19 dX10_related_10 (by decide) (fun hc => ?_) (fun hc => ?_)
  · rw [if_pos hc] at hf
    refine r_iload_n (pc := 19) dX10_related_19 rfl ?_
    refine r_if_ne (pc := 20) 58 dX10_related_20 (by decide) (fun hc => ?_) (fun hc => ?_)
    · rw [if_pos hc] at hf
      refine r_iconst (pc := 58) (0 : Int32) dX10_related_58 (by decide) ?_
      refine r_istore (pc := 59) dX10_related_59 (by decide) ?_
      change gW _ _ _ [some (.ref a0), some (.int a1), some (.int a2), some (.int a3), some (.int (0 : Int32)), none] _ _ _ _ _ _
      refine r_iconst (pc := 61) (0 : Int32) dX10_related_61 (by decide) ?_
      refine r_istore (pc := 62) dX10_related_62 (by decide) ?_
      change gW _ _ _ [some (.ref a0), some (.int a1), some (.int a2), some (.int a3), some (.int (0 : Int32)), some (.int (0 : Int32))] _ _ _ _ _ _
      replace hf := obind hf
      obtain ⟨r9, e10, hf⟩ := hf
      refine gW.weak (ls' := [some (.ref a0), some (.int a1), some (.int a2), none, some (.int (0 : Int32)), some (.int (0 : Int32))]) (by simp [gle]) ?_
      refine g_iter (L := L_X10_related_64 a0 a1 a2 S1) (s := s_X10_related_64 a0 a1 a2 S1) (K := K_X10_related_64 X Q _ _ a0 a1 a2 S1) (W_X10_related_64 a0 a1 a2 S1) fu ((0 : Int32), (0 : Int32)) _ e10 ?_
      rcases r9 with q11 | q11
      · simp only [Sum.elim_inl, Sum.elim_inr] at hf
        show gW _ _ 97 [some (.ref a0), some (.int a1), some (.int a2), none, none, some (.int q11)] [] S1.1 S1.2 _ _ _
        refine r_iload (pc := 97) dX10_related_97 rfl ?_
        refine r_ireturn (pc := 99) .int dX10_related_99 rfl rfl ?_
        cases hf
        exact hk
      · simp only [Sum.elim_inl, Sum.elim_inr] at hf
        show gW _ _ 109 [some (.ref a0), some (.int a1), some (.int a2), none, none, none] [] S1.1 S1.2 _ _ _
        refine r_aload_n (pc := 109) dX10_related_109 rfl ?_
        refine r_iconst (pc := 110) (2 : Int32) dX10_related_110 (by decide) ?_
        replace hf := obind hf
        obtain ⟨q12, e13, hf⟩ := hf
        refine q_callV (pc := 111) (v := some (.int q12.1)) (S' := q12.2) mX10_fails 10 [.int (2 : Int32)] dX10_related_111 kX10_186 fX10_fails iX10_fails ⟨by decide, by decide⟩ rfl rfl rfl (Nat.le_of_ble_eq_true rfl) (og e13) (mc1 := 0) (ms1 := 0) (mc2 := 0) (ms2 := 0) (by decide) (by decide) (C_X10_fails S1 a0 (2 : Int32) q12 e13 (qR_mk _ _)) ?_
        change gW _ _ _ _ (.int q12.1 :: _) _ _ _ _ _
        refine r_ireturn (pc := 114) .int dX10_related_114 rfl rfl ?_
        cases hf
        exact hk
    · rw [if_neg hc] at hf
      refine r_iload_n (pc := 23) dX10_related_23 rfl ?_
      refine r_iconst (pc := 24) (0 : Int32) dX10_related_24 (by decide) ?_
      refine r_aload_n (pc := 25) dX10_related_25 rfl ?_
      replace hf := obind hf
      obtain ⟨x14, e15, hf⟩ := hf
      refine q_getA (pc := 26) dX10_related_26 gX10_7 e15 ?_
      refine r_sipush (pc := 29) (916 : Int32) dX10_related_29 (by decide) ?_
      refine r_iload_n (pc := 32) dX10_related_32 rfl ?_
      refine r_iadd (pc := 33) dX10_related_33 ?_
      replace hf := obind hf
      obtain ⟨x16, e17, hf⟩ := hf
      refine q_iald (pc := 34) dX10_related_34 e17 ?_
      refine r_iconst (pc := 35) (1 : Int32) dX10_related_35 (by decide) ?_
      refine r_isub (pc := 36) dX10_related_36 ?_
      replace hf := obind hf
      obtain ⟨q18, e19, hf⟩ := hf
      refine q_callS (pc := 37) (v := some (.int q18)) (S' := S1) mX10_in [.int a2, .int (0 : Int32), .int (x16 - (1 : Int32))] dX10_related_37 kX10_142 fX10_in sX10_in ⟨by decide, by decide⟩ rfl rfl (Nat.le_of_ble_eq_true rfl) (mc1 := 0) (ms1 := 0) (mc2 := 0) (ms2 := 0) (by decide) (by decide) (C_X10_in S1 a2 (0 : Int32) (x16 - (1 : Int32)) q18 e19 (qR_mk _ _)) ?_
      change gW _ _ _ _ (.int q18 :: _) _ _ _ _ _
      refine r_if_eq (pc := 40) 52 dX10_related_40 (by decide) (fun hc => ?_) (fun hc => ?_)
      · rw [if_pos hc] at hf
        refine r_aload_n (pc := 52) dX10_related_52 rfl ?_
        refine r_iconst (pc := 53) (2 : Int32) dX10_related_53 (by decide) ?_
        replace hf := obind hf
        obtain ⟨q20, e21, hf⟩ := hf
        refine q_callV (pc := 54) (v := some (.int q20.1)) (S' := q20.2) mX10_fails 10 [.int (2 : Int32)] dX10_related_54 kX10_186 fX10_fails iX10_fails ⟨by decide, by decide⟩ rfl rfl rfl (Nat.le_of_ble_eq_true rfl) (og e21) (mc1 := 0) (ms1 := 0) (mc2 := 0) (ms2 := 0) (by decide) (by decide) (C_X10_fails S1 a0 (2 : Int32) q20 e21 (qR_mk _ _)) ?_
        change gW _ _ _ _ (.int q20.1 :: _) _ _ _ _ _
        refine r_ireturn (pc := 57) .int dX10_related_57 rfl rfl ?_
        cases hf
        exact hk
      · rw [if_neg hc] at hf
        refine r_aload_n (pc := 43) dX10_related_43 rfl ?_
        refine r_iload_n (pc := 44) dX10_related_44 rfl ?_
        refine r_iload_n (pc := 45) dX10_related_45 rfl ?_
        replace hf := obind hf
        obtain ⟨q22, e23, hf⟩ := hf
        refine q_callV (pc := 46) (v := some (.int q22)) (S' := S1) mX10_child 10 [.int a1, .int a2] dX10_related_46 kX10_150 fX10_child iX10_child ⟨by decide, by decide⟩ rfl rfl rfl (Nat.le_of_ble_eq_true rfl) (og e23) (mc1 := 0) (ms1 := 0) (mc2 := 0) (ms2 := 0) (by decide) (by decide) (C_X10_child S1 a0 a1 a2 q22 e23 (qR_mk _ _)) ?_
        change gW _ _ _ _ (.int q22 :: _) _ _ _ _ _
        refine r_goto (pc := 49) 57 dX10_related_49 (by decide) ?_
        refine r_ireturn (pc := 57) .int dX10_related_57 rfl rfl ?_
        cases hf
        exact hk
  · rw [if_neg hc] at hf
    refine r_aload_n (pc := 13) dX10_related_13 rfl ?_
    refine r_iconst (pc := 14) (1 : Int32) dX10_related_14 (by decide) ?_
    replace hf := obind hf
    obtain ⟨q24, e25, hf⟩ := hf
    refine q_callV (pc := 15) (v := some (.int q24.1)) (S' := q24.2) mX10_fails 10 [.int (1 : Int32)] dX10_related_15 kX10_186 fX10_fails iX10_fails ⟨by decide, by decide⟩ rfl rfl rfl (Nat.le_of_ble_eq_true rfl) (og e25) (mc1 := 0) (ms1 := 0) (mc2 := 0) (ms2 := 0) (by decide) (by decide) (C_X10_fails S1 a0 (1 : Int32) q24 e25 (qR_mk _ _)) ?_
    change gW _ _ _ _ (.int q24.1 :: _) _ _ _ _ _
    refine r_ireturn (pc := 18) .int dX10_related_18 rfl rfl ?_
    cases hf
    exact hk
def F_X10_letter_38 (S : pS) (l0 : Nat) (l1 : Int32) (l2 : Int32) (t0 : Nat) (t1 : Int32) : Option (Int32 × pS) := (oPI S t0 10 0 t1).bind fun S9 => (oGI S9 l0 10 0).bind fun x11 => if x11 ≤ 0 then ((oGA S9 l0 10 1).bind fun x13 => (oAI S9 x13 .int (((306 : Int32) + ((10 : Int32) * l1)) + l2)).bind fun x15 => (oC ((x15.toUInt32 % 65536).toInt32)).bind fun x17 => some (x17, S9)) else ((oC (0 : Int32)).bind fun x19 => some (x19, S9))
set_option maxRecDepth 100000 in
set_option maxHeartbeats 4000000 in
theorem W_X10_letter_38 {X : pX} {Q : pO → Nat → pF → Prop} (S : pS) (l0 : Nat) (l1 : Int32) (l2 : Int32) (t0 : Nat) (t1 : Int32) (r : Int32 × pS) (hf : F_X10_letter_38 S l0 l1 l2 t0 t1 = some r) (hk : Q (.inl (some (.int r.1))) r.2.1 r.2.2) : gW X mX10_letter 38 [some (.ref l0), some (.int l1), some (.int l2)] [.int t1, .ref t0] S.1 S.2 Q 0 0 := by
  unfold F_X10_letter_38 at hf
  replace hf := obind hf
  obtain ⟨S9, e10, hf⟩ := hf
  refine q_putI (pc := 38) dX10_letter_38 pX10_139 rfl e10 ?_
  refine r_aload_n (pc := 41) dX10_letter_41 rfl ?_
  replace hf := obind hf
  obtain ⟨x11, e12, hf⟩ := hf
  refine q_getI (pc := 42) dX10_letter_42 gX10_139 e12 ?_
  refine r_if_le (pc := 45) 52 dX10_letter_45 (by decide) (fun hc => ?_) (fun hc => ?_)
  · rw [if_pos hc] at hf
    refine r_aload_n (pc := 52) dX10_letter_52 rfl ?_
    replace hf := obind hf
    obtain ⟨x13, e14, hf⟩ := hf
    refine q_getA (pc := 53) dX10_letter_53 gX10_7 e14 ?_
    refine r_sipush (pc := 56) (306 : Int32) dX10_letter_56 (by decide) ?_
    refine r_bipush (pc := 59) (10 : Int32) dX10_letter_59 (by decide) ?_
    refine r_iload_n (pc := 61) dX10_letter_61 rfl ?_
    refine r_imul (pc := 62) dX10_letter_62 ?_
    refine r_iadd (pc := 63) dX10_letter_63 ?_
    refine r_iload_n (pc := 64) dX10_letter_64 rfl ?_
    refine r_iadd (pc := 65) dX10_letter_65 ?_
    replace hf := obind hf
    obtain ⟨x15, e16, hf⟩ := hf
    refine q_iald (pc := 66) dX10_letter_66 e16 ?_
    refine r_i2c (pc := 67) dX10_letter_67 ?_
    replace hf := obind hf
    obtain ⟨x17, e18, hf⟩ := hf
    obtain ⟨e18a, e18b⟩ := oC_some e18
    rw [e18a] at hf
    refine r_ireturn (pc := 68) .char dX10_letter_68 rfl e18b ?_
    cases hf
    exact hk
  · rw [if_neg hc] at hf
    refine r_iconst (pc := 48) (0 : Int32) dX10_letter_48 (by decide) ?_
    refine r_goto (pc := 49) 68 dX10_letter_49 (by decide) ?_
    replace hf := obind hf
    obtain ⟨x19, e20, hf⟩ := hf
    obtain ⟨e20a, e20b⟩ := oC_some e20
    rw [e20a] at hf
    refine r_ireturn (pc := 68) .char dX10_letter_68 rfl e20b ?_
    cases hf
    exact hk
def F_X10_letter (S : pS) (a0 : Nat) (a1 : Int32) (a2 : Int32) : Option (Int32 × pS) := (oF S a0 10).bind fun _ => (F_X10_isOther S a0 a1).bind fun q1 => if ¬ q1 = 0 then ((oGA S a0 10 1).bind fun x3 => (oAI S x3 .int ((245 : Int32) + a1)).bind fun x5 => (F_X10_in S a2 (0 : Int32) (x5 - (1 : Int32))).bind fun q7 => if ¬ q7 = 0 then (F_X10_letter_38 S a0 a1 a2 a0 (0 : Int32)) else (F_X10_letter_38 S a0 a1 a2 a0 (2 : Int32))) else (F_X10_letter_38 S a0 a1 a2 a0 (1 : Int32))
set_option maxRecDepth 100000 in
set_option maxHeartbeats 4000000 in
theorem C_X10_letter {X : pX} {Q : pO → Nat → pF → Prop} (S : pS) (a0 : Nat) (a1 : Int32) (a2 : Int32) (r : Int32 × pS) (hf : F_X10_letter S a0 a1 a2 = some r) (hk : Q (.inl (some (.int r.1))) r.2.1 r.2.2) : gC X mX10_letter [.ref a0, .int a1, .int a2] S.1 S.2 Q 0 0 := by
  refine gC_of (by decide) (Nat.le_of_ble_eq_true rfl) rfl ?_
  change gW _ _ _ [some (.ref a0), some (.int a1), some (.int a2)] _ _ _ _ _ _
  unfold F_X10_letter at hf
  obtain ⟨_, _, hf⟩ := obind hf
  refine r_aload_n (pc := 0) dX10_letter_0 rfl ?_
  refine r_aload_n (pc := 1) dX10_letter_1 rfl ?_
  refine r_iload_n (pc := 2) dX10_letter_2 rfl ?_
  replace hf := obind hf
  obtain ⟨q1, e2, hf⟩ := hf
  refine q_callV (pc := 3) (v := some (.int q1)) (S' := S) mX10_isOther 10 [.int a1] dX10_letter_3 kX10_245 fX10_isOther iX10_isOther ⟨by decide, by decide⟩ rfl rfl rfl (Nat.le_of_ble_eq_true rfl) (og e2) (mc1 := 0) (ms1 := 0) (mc2 := 0) (ms2 := 0) (by decide) (by decide) (C_X10_isOther S a0 a1 q1 e2 (qR_mk _ _)) ?_
  change gW _ _ _ _ (.int q1 :: _) _ _ _ _ _
  refine r_if_ne (pc := 6) 13 dX10_letter_6 (by decide) (fun hc => ?_) (fun hc => ?_)
  · rw [if_pos hc] at hf
    refine r_iload_n (pc := 13) dX10_letter_13 rfl ?_
    refine r_iconst (pc := 14) (0 : Int32) dX10_letter_14 (by decide) ?_
    refine r_aload_n (pc := 15) dX10_letter_15 rfl ?_
    replace hf := obind hf
    obtain ⟨x3, e4, hf⟩ := hf
    refine q_getA (pc := 16) dX10_letter_16 gX10_7 e4 ?_
    refine r_sipush (pc := 19) (245 : Int32) dX10_letter_19 (by decide) ?_
    refine r_iload_n (pc := 22) dX10_letter_22 rfl ?_
    refine r_iadd (pc := 23) dX10_letter_23 ?_
    replace hf := obind hf
    obtain ⟨x5, e6, hf⟩ := hf
    refine q_iald (pc := 24) dX10_letter_24 e6 ?_
    refine r_iconst (pc := 25) (1 : Int32) dX10_letter_25 (by decide) ?_
    refine r_isub (pc := 26) dX10_letter_26 ?_
    replace hf := obind hf
    obtain ⟨q7, e8, hf⟩ := hf
    refine q_callS (pc := 27) (v := some (.int q7)) (S' := S) mX10_in [.int a2, .int (0 : Int32), .int (x5 - (1 : Int32))] dX10_letter_27 kX10_142 fX10_in sX10_in ⟨by decide, by decide⟩ rfl rfl (Nat.le_of_ble_eq_true rfl) (mc1 := 0) (ms1 := 0) (mc2 := 0) (ms2 := 0) (by decide) (by decide) (C_X10_in S a2 (0 : Int32) (x5 - (1 : Int32)) q7 e8 (qR_mk _ _)) ?_
    change gW _ _ _ _ (.int q7 :: _) _ _ _ _ _
    refine r_if_ne (pc := 30) 37 dX10_letter_30 (by decide) (fun hc => ?_) (fun hc => ?_)
    · rw [if_pos hc] at hf
      refine r_iconst (pc := 37) (0 : Int32) dX10_letter_37 (by decide) ?_
      refine gW.mono (mc := 0) (ms := 0) ?_ (fun _ _ _ q => q) (by decide) (by decide)
      exact gW.weak (by simp [gle]) (W_X10_letter_38 S a0 a1 a2 a0 (0 : Int32) r hf hk)
    · rw [if_neg hc] at hf
      refine r_iconst (pc := 33) (2 : Int32) dX10_letter_33 (by decide) ?_
      refine r_goto (pc := 34) 38 dX10_letter_34 (by decide) ?_
      refine gW.mono (mc := 0) (ms := 0) ?_ (fun _ _ _ q => q) (by decide) (by decide)
      exact gW.weak (by simp [gle]) (W_X10_letter_38 S a0 a1 a2 a0 (2 : Int32) r hf hk)
  · rw [if_neg hc] at hf
    refine r_iconst (pc := 9) (1 : Int32) dX10_letter_9 (by decide) ?_
    refine r_goto (pc := 10) 38 dX10_letter_10 (by decide) ?_
    refine gW.mono (mc := 0) (ms := 0) ?_ (fun _ _ _ q => q) (by decide) (by decide)
    exact gW.weak (by simp [gle]) (W_X10_letter_38 S a0 a1 a2 a0 (1 : Int32) r hf hk)
def F_X10_isBelow_22 (S : pS) (l0 : Nat) (l1 : Int32) (l2 : Int32) (t0 : Nat) (t1 : Int32) : Option (Int32 × pS) := (oPI S t0 10 0 t1).bind fun S3 => (oGI S3 l0 10 0).bind fun x5 => if x5 ≤ 0 then ((F_X10_knows S3 l0).bind fun q7 => (F_X10_isUnder q7 l0 l1 l2).bind fun q9 => (oZ q9).bind fun x11 => some (x11, q7)) else (some ((0 : Int32), S3))
set_option maxRecDepth 100000 in
set_option maxHeartbeats 4000000 in
theorem W_X10_isBelow_22 {X : pX} {Q : pO → Nat → pF → Prop} (S : pS) (l0 : Nat) (l1 : Int32) (l2 : Int32) (t0 : Nat) (t1 : Int32) (r : Int32 × pS) (hf : F_X10_isBelow_22 S l0 l1 l2 t0 t1 = some r) (hk : Q (.inl (some (.int r.1))) r.2.1 r.2.2) : gW X mX10_isBelow 22 [some (.ref l0), some (.int l1), some (.int l2)] [.int t1, .ref t0] S.1 S.2 Q 0 0 := by
  unfold F_X10_isBelow_22 at hf
  replace hf := obind hf
  obtain ⟨S3, e4, hf⟩ := hf
  refine q_putI (pc := 22) dX10_isBelow_22 pX10_139 rfl e4 ?_
  refine r_aload_n (pc := 25) dX10_isBelow_25 rfl ?_
  replace hf := obind hf
  obtain ⟨x5, e6, hf⟩ := hf
  refine q_getI (pc := 26) dX10_isBelow_26 gX10_139 e6 ?_
  refine r_if_le (pc := 29) 34 dX10_isBelow_29 (by decide) (fun hc => ?_) (fun hc => ?_)
  · rw [if_pos hc] at hf
    refine r_aload_n (pc := 34) dX10_isBelow_34 rfl ?_
    replace hf := obind hf
    obtain ⟨q7, e8, hf⟩ := hf
    refine q_callV (pc := 35) (v := none) (S' := q7) mX10_knows 10 [] dX10_isBelow_35 kX10_169 fX10_knows iX10_knows ⟨by decide, by decide⟩ rfl rfl rfl (Nat.le_of_ble_eq_true rfl) (og e8) (mc1 := 0) (ms1 := 0) (mc2 := 0) (ms2 := 0) (by decide) (by decide) (C_X10_knows S3 l0 q7 e8 (qR_mk _ _)) ?_
    refine r_aload_n (pc := 38) dX10_isBelow_38 rfl ?_
    refine r_iload_n (pc := 39) dX10_isBelow_39 rfl ?_
    refine r_iload_n (pc := 40) dX10_isBelow_40 rfl ?_
    replace hf := obind hf
    obtain ⟨q9, e10, hf⟩ := hf
    refine q_callV (pc := 41) (v := some (.int q9)) (S' := q7) mX10_isUnder 10 [.int l1, .int l2] dX10_isBelow_41 kX10_175 fX10_isUnder iX10_isUnder ⟨by decide, by decide⟩ rfl rfl rfl (Nat.le_of_ble_eq_true rfl) (og e10) (mc1 := 0) (ms1 := 0) (mc2 := 0) (ms2 := 0) (by decide) (by decide) (C_X10_isUnder q7 l0 l1 l2 q9 e10 (qR_mk _ _)) ?_
    change gW _ _ _ _ (.int q9 :: _) _ _ _ _ _
    replace hf := obind hf
    obtain ⟨x11, e12, hf⟩ := hf
    obtain ⟨e12a, e12b⟩ := oZ_some e12
    rw [e12a] at hf
    refine r_ireturn (pc := 44) .boolean dX10_isBelow_44 rfl e12b ?_
    cases hf
    exact hk
  · rw [if_neg hc] at hf
    refine r_iconst (pc := 32) (0 : Int32) dX10_isBelow_32 (by decide) ?_
    refine r_ireturn (pc := 33) .boolean dX10_isBelow_33 rfl rfl ?_
    cases hf
    exact hk
def F_X10_isBelow_21 (S : pS) (l0 : Nat) (l1 : Int32) (l2 : Int32) (t0 : Nat) : Option (Int32 × pS) := F_X10_isBelow_22 S l0 l1 l2 t0 (1 : Int32)
set_option maxRecDepth 100000 in
set_option maxHeartbeats 4000000 in
theorem W_X10_isBelow_21 {X : pX} {Q : pO → Nat → pF → Prop} (S : pS) (l0 : Nat) (l1 : Int32) (l2 : Int32) (t0 : Nat) (r : Int32 × pS) (hf : F_X10_isBelow_21 S l0 l1 l2 t0 = some r) (hk : Q (.inl (some (.int r.1))) r.2.1 r.2.2) : gW X mX10_isBelow 21 [some (.ref l0), some (.int l1), some (.int l2)] [.ref t0] S.1 S.2 Q 0 0 := by
  unfold F_X10_isBelow_21 at hf
  refine r_iconst (pc := 21) (1 : Int32) dX10_isBelow_21 (by decide) ?_
  refine gW.mono (mc := 0) (ms := 0) ?_ (fun _ _ _ q => q) (by decide) (by decide)
  exact gW.weak (by simp [gle]) (W_X10_isBelow_22 S l0 l1 l2 t0 (1 : Int32) r hf hk)
def F_X10_isBelow (S : pS) (a0 : Nat) (a1 : Int32) (a2 : Int32) : Option (Int32 × pS) := (oF S a0 10).bind fun _ => (F_X10_isItem S a0 a1).bind fun q1 => if q1 = 0 then (F_X10_isBelow_21 S a0 a1 a2 a0) else ((F_X10_isItem S a0 a2).bind fun q13 => if q13 = 0 then (F_X10_isBelow_21 S a0 a1 a2 a0) else (F_X10_isBelow_22 S a0 a1 a2 a0 (0 : Int32)))
set_option maxRecDepth 100000 in
set_option maxHeartbeats 4000000 in
theorem C_X10_isBelow {X : pX} {Q : pO → Nat → pF → Prop} (S : pS) (a0 : Nat) (a1 : Int32) (a2 : Int32) (r : Int32 × pS) (hf : F_X10_isBelow S a0 a1 a2 = some r) (hk : Q (.inl (some (.int r.1))) r.2.1 r.2.2) : gC X mX10_isBelow [.ref a0, .int a1, .int a2] S.1 S.2 Q 0 0 := by
  refine gC_of (by decide) (Nat.le_of_ble_eq_true rfl) rfl ?_
  change gW _ _ _ [some (.ref a0), some (.int a1), some (.int a2)] _ _ _ _ _ _
  unfold F_X10_isBelow at hf
  obtain ⟨_, _, hf⟩ := obind hf
  refine r_aload_n (pc := 0) dX10_isBelow_0 rfl ?_
  refine r_aload_n (pc := 1) dX10_isBelow_1 rfl ?_
  refine r_iload_n (pc := 2) dX10_isBelow_2 rfl ?_
  replace hf := obind hf
  obtain ⟨q1, e2, hf⟩ := hf
  refine q_callV (pc := 3) (v := some (.int q1)) (S' := S) mX10_isItem 10 [.int a1] dX10_isBelow_3 kX10_146 fX10_isItem iX10_isItem ⟨by decide, by decide⟩ rfl rfl rfl (Nat.le_of_ble_eq_true rfl) (og e2) (mc1 := 0) (ms1 := 0) (mc2 := 0) (ms2 := 0) (by decide) (by decide) (C_X10_isItem S a0 a1 q1 e2 (qR_mk _ _)) ?_
  change gW _ _ _ _ (.int q1 :: _) _ _ _ _ _
  refine r_if_eq (pc := 6) 21 dX10_isBelow_6 (by decide) (fun hc => ?_) (fun hc => ?_)
  · rw [if_pos hc] at hf
    refine gW.mono (mc := 0) (ms := 0) ?_ (fun _ _ _ q => q) (by decide) (by decide)
    exact gW.weak (by simp [gle]) (W_X10_isBelow_21 S a0 a1 a2 a0 r hf hk)
  · rw [if_neg hc] at hf
    refine r_aload_n (pc := 9) dX10_isBelow_9 rfl ?_
    refine r_iload_n (pc := 10) dX10_isBelow_10 rfl ?_
    replace hf := obind hf
    obtain ⟨q13, e14, hf⟩ := hf
    refine q_callV (pc := 11) (v := some (.int q13)) (S' := S) mX10_isItem 10 [.int a2] dX10_isBelow_11 kX10_146 fX10_isItem iX10_isItem ⟨by decide, by decide⟩ rfl rfl rfl (Nat.le_of_ble_eq_true rfl) (og e14) (mc1 := 0) (ms1 := 0) (mc2 := 0) (ms2 := 0) (by decide) (by decide) (C_X10_isItem S a0 a2 q13 e14 (qR_mk _ _)) ?_
    change gW _ _ _ _ (.int q13 :: _) _ _ _ _ _
    refine r_if_eq (pc := 14) 21 dX10_isBelow_14 (by decide) (fun hc => ?_) (fun hc => ?_)
    · rw [if_pos hc] at hf
      refine gW.mono (mc := 0) (ms := 0) ?_ (fun _ _ _ q => q) (by decide) (by decide)
      exact gW.weak (by simp [gle]) (W_X10_isBelow_21 S a0 a1 a2 a0 r hf hk)
    · rw [if_neg hc] at hf
      refine r_iconst (pc := 17) (0 : Int32) dX10_isBelow_17 (by decide) ?_
      refine r_goto (pc := 18) 22 dX10_isBelow_18 (by decide) ?_
      refine gW.mono (mc := 0) (ms := 0) ?_ (fun _ _ _ q => q) (by decide) (by decide)
      exact gW.weak (by simp [gle]) (W_X10_isBelow_22 S a0 a1 a2 a0 (0 : Int32) r hf hk)
abbrev L_X10_fitting_4 (l0 : Nat) (S : pS) : Int32 × Int32 → List (Option Value) := fun a => [some (.ref l0), some (.int a.1), some (.int a.2)]
abbrev s_X10_fitting_4 (l0 : Nat) (S : pS) : Int32 × Int32 → pS := fun a => S
abbrev K_X10_fitting_4 (X : pX) (Q : pO → Nat → pF → Prop) (mc ms : Nat) (l0 : Nat) (S : pS) : Int32 → Prop := (fun b => gW X mX10_fitting 40 [some (.ref l0), some (.int b), none] [] S.1 S.2 Q mc ms)
def F_X10_fitting_31 (l0 : Nat) (S : pS) (l2 : Int32) (t0 : Int32) : Option ((Int32 × Int32) ⊕ (Int32)) := some (.inl (t0 + (0 : Int32), l2 + (1 : Int32)))
set_option maxRecDepth 100000 in
set_option maxHeartbeats 4000000 in
theorem W_X10_fitting_31 {X : pX} {Q : pO → Nat → pF → Prop} {mc ms : Nat} (l0 : Nat) (S : pS) (l2 : Int32) (t0 : Int32) (r : (Int32 × Int32) ⊕ (Int32)) (hf : F_X10_fitting_31 l0 S l2 t0 = some r) (hk : Sum.elim (fun a' => gW X mX10_fitting 4 (L_X10_fitting_4 l0 S a') [] (s_X10_fitting_4 l0 S a').1 (s_X10_fitting_4 l0 S a').2 Q mc ms) (K_X10_fitting_4 X Q mc ms l0 S) r) : gW X mX10_fitting 31 [some (.ref l0), none, some (.int l2)] [.int t0] S.1 S.2 Q mc ms := by
  unfold F_X10_fitting_31 at hf
  refine r_iconst (pc := 31) (0 : Int32) dX10_fitting_31 (by decide) ?_
  refine r_iadd (pc := 32) dX10_fitting_32 ?_
  refine r_istore_n (pc := 33) dX10_fitting_33 (by decide) ?_
  change gW _ _ _ [some (.ref l0), some (.int (t0 + (0 : Int32))), some (.int l2)] _ _ _ _ _ _
  refine r_iinc (pc := 34) dX10_fitting_34 rfl (by decide) ?_
  change gW _ _ _ [some (.ref l0), some (.int (t0 + (0 : Int32))), some (.int (l2 + (1 : Int32)))] _ _ _ _ _ _
  refine r_goto (pc := 37) 4 dX10_fitting_37 (by decide) ?_
  cases hf
  exact gW.weak (by simp [gle]) hk
def F_X10_fitting_4 (l0 : Nat) (S : pS) : Int32 × Int32 → Option ((Int32 × Int32) ⊕ (Int32)) := fun a => if (61 : Int32) ≤ a.2 then (some (.inr a.1)) else ((F_X10_isItem S l0 a.2).bind fun q1 => if q1 = 0 then (F_X10_fitting_31 l0 S a.2 a.1) else ((F_X10_fits S l0 a.2).bind fun q3 => if q3 = 0 then (F_X10_fitting_31 l0 S a.2 a.1) else (some (.inl (a.1 + (1 : Int32), a.2 + (1 : Int32))))))
set_option maxRecDepth 100000 in
set_option maxHeartbeats 4000000 in
theorem W_X10_fitting_4 {X : pX} {Q : pO → Nat → pF → Prop} {mc ms : Nat} (l0 : Nat) (S : pS) : ∀ (a : Int32 × Int32) (r : (Int32 × Int32) ⊕ (Int32)), F_X10_fitting_4 l0 S a = some r → Sum.elim (fun a' => gW X mX10_fitting 4 (L_X10_fitting_4 l0 S a') [] (s_X10_fitting_4 l0 S a').1 (s_X10_fitting_4 l0 S a').2 Q mc ms) (K_X10_fitting_4 X Q mc ms l0 S) r → gW X mX10_fitting 4 (L_X10_fitting_4 l0 S a) [] (s_X10_fitting_4 l0 S a).1 (s_X10_fitting_4 l0 S a).2 Q mc ms := by
  intro a r hf hk
  obtain ⟨l1, l2⟩ := a
  unfold F_X10_fitting_4 at hf
  try dsimp only at hf
  change gW _ _ _ [some (.ref l0), some (.int l1), some (.int l2)] _ S.1 S.2 _ _ _
  refine r_iload_n (pc := 4) dX10_fitting_4 rfl ?_
  refine r_bipush (pc := 5) (61 : Int32) dX10_fitting_5 (by decide) ?_
  refine r_icmp_ge (pc := 7) 40 dX10_fitting_7 (by decide) (fun hc => ?_) (fun hc => ?_)
  · rw [if_pos hc] at hf
    cases hf
    exact gW.weak (by simp [gle]) hk
  · rw [if_neg hc] at hf
    refine r_iload_n (pc := 10) dX10_fitting_10 rfl ?_
    refine r_aload_n (pc := 11) dX10_fitting_11 rfl ?_
    refine r_iload_n (pc := 12) dX10_fitting_12 rfl ?_
    replace hf := obind hf
    obtain ⟨q1, e2, hf⟩ := hf
    refine q_callV (pc := 13) (v := some (.int q1)) (S' := S) mX10_isItem 10 [.int l2] dX10_fitting_13 kX10_146 fX10_isItem iX10_isItem ⟨by decide, by decide⟩ rfl rfl rfl (Nat.le_of_ble_eq_true rfl) (og e2) (mc1 := 0) (ms1 := 0) (mc2 := mc) (ms2 := ms) (by omega) (by omega) (C_X10_isItem S l0 l2 q1 e2 (qR_mk _ _)) ?_
    change gW _ _ _ _ (.int q1 :: _) _ _ _ _ _
    refine r_if_eq (pc := 16) 31 dX10_fitting_16 (by decide) (fun hc => ?_) (fun hc => ?_)
    · rw [if_pos hc] at hf
      exact gW.weak (by simp [gle]) (W_X10_fitting_31 l0 S l2 l1 r hf hk)
    · rw [if_neg hc] at hf
      refine r_aload_n (pc := 19) dX10_fitting_19 rfl ?_
      refine r_iload_n (pc := 20) dX10_fitting_20 rfl ?_
      replace hf := obind hf
      obtain ⟨q3, e4, hf⟩ := hf
      refine q_callV (pc := 21) (v := some (.int q3)) (S' := S) mX10_fits 10 [.int l2] dX10_fitting_21 kX10_282 fX10_fits iX10_fits ⟨by decide, by decide⟩ rfl rfl rfl (Nat.le_of_ble_eq_true rfl) (og e4) (mc1 := 0) (ms1 := 0) (mc2 := mc) (ms2 := ms) (by omega) (by omega) (C_X10_fits S l0 l2 q3 e4 (qR_mk _ _)) ?_
      change gW _ _ _ _ (.int q3 :: _) _ _ _ _ _
      refine r_if_eq (pc := 24) 31 dX10_fitting_24 (by decide) (fun hc => ?_) (fun hc => ?_)
      · rw [if_pos hc] at hf
        exact gW.weak (by simp [gle]) (W_X10_fitting_31 l0 S l2 l1 r hf hk)
      · rw [if_neg hc] at hf
        refine r_iconst (pc := 27) (1 : Int32) dX10_fitting_27 (by decide) ?_
        refine r_goto (pc := 28) 32 dX10_fitting_28 (by decide) ?_
        refine r_iadd (pc := 32) dX10_fitting_32 ?_
        refine r_istore_n (pc := 33) dX10_fitting_33 (by decide) ?_
        change gW _ _ _ [some (.ref l0), some (.int (l1 + (1 : Int32))), some (.int l2)] _ _ _ _ _ _
        refine r_iinc (pc := 34) dX10_fitting_34 rfl (by decide) ?_
        change gW _ _ _ [some (.ref l0), some (.int (l1 + (1 : Int32))), some (.int (l2 + (1 : Int32)))] _ _ _ _ _ _
        refine r_goto (pc := 37) 4 dX10_fitting_37 (by decide) ?_
        cases hf
        exact gW.weak (by simp [gle]) hk
def F_X10_fitting (S : pS) (a0 : Nat) : Option (Int32) := (oF S a0 10).bind fun _ => (iter (F_X10_fitting_4 a0 S) fu ((0 : Int32), (1 : Int32))).bind fun r5 => some r5
set_option maxRecDepth 100000 in
set_option maxHeartbeats 4000000 in
theorem C_X10_fitting {X : pX} {Q : pO → Nat → pF → Prop} (S : pS) (a0 : Nat) (r : Int32) (hf : F_X10_fitting S a0 = some r) (hk : Q (.inl (some (.int r))) S.1 S.2) : gC X mX10_fitting [.ref a0] S.1 S.2 Q 0 0 := by
  refine gC_of (by decide) (Nat.le_of_ble_eq_true rfl) rfl ?_
  change gW _ _ _ [some (.ref a0), none, none] _ _ _ _ _ _
  unfold F_X10_fitting at hf
  obtain ⟨_, _, hf⟩ := obind hf
  refine r_iconst (pc := 0) (0 : Int32) dX10_fitting_0 (by decide) ?_
  refine r_istore_n (pc := 1) dX10_fitting_1 (by decide) ?_
  change gW _ _ _ [some (.ref a0), some (.int (0 : Int32)), none] _ _ _ _ _ _
  refine r_iconst (pc := 2) (1 : Int32) dX10_fitting_2 (by decide) ?_
  refine r_istore_n (pc := 3) dX10_fitting_3 (by decide) ?_
  change gW _ _ _ [some (.ref a0), some (.int (0 : Int32)), some (.int (1 : Int32))] _ _ _ _ _ _
  replace hf := obind hf
  obtain ⟨r5, e6, hf⟩ := hf
  refine gW.weak (ls' := [some (.ref a0), some (.int (0 : Int32)), some (.int (1 : Int32))]) (by simp [gle]) ?_
  refine g_iter (L := L_X10_fitting_4 a0 S) (s := s_X10_fitting_4 a0 S) (K := K_X10_fitting_4 X Q _ _ a0 S) (W_X10_fitting_4 a0 S) fu ((0 : Int32), (1 : Int32)) _ e6 ?_
  show gW _ _ 40 [some (.ref a0), some (.int r5), none] [] S.1 S.2 _ _ _
  refine r_iload_n (pc := 40) dX10_fitting_40 rfl ?_
  refine r_ireturn (pc := 41) .int dX10_fitting_41 rfl rfl ?_
  cases hf
  exact hk
abbrev L_X10_deepest_4 (l0 : Nat) (S : pS) : Int32 × Int32 → List (Option Value) := fun a => [some (.ref l0), some (.int a.1), some (.int a.2)]
abbrev s_X10_deepest_4 (l0 : Nat) (S : pS) : Int32 × Int32 → pS := fun a => S
abbrev K_X10_deepest_4 (X : pX) (Q : pO → Nat → pF → Prop) (mc ms : Nat) (l0 : Nat) (S : pS) : Int32 → Prop := (fun b => gW X mX10_deepest 45 [some (.ref l0), some (.int b), none] [] S.1 S.2 Q mc ms)
def F_X10_deepest_4 (l0 : Nat) (S : pS) : Int32 × Int32 → Option ((Int32 × Int32) ⊕ (Int32)) := fun a => if (61 : Int32) ≤ a.2 then (some (.inr a.1)) else ((F_X10_isItem S l0 a.2).bind fun q1 => if q1 = 0 then (some (.inl (a.1, a.2 + (1 : Int32)))) else ((oGA S l0 10 18).bind fun x3 => (oAI S x3 .int a.2).bind fun x5 => if x5 ≤ a.1 then (some (.inl (a.1, a.2 + (1 : Int32)))) else ((oGA S l0 10 18).bind fun x7 => (oAI S x7 .int a.2).bind fun x9 => some (.inl (x9, a.2 + (1 : Int32))))))
set_option maxRecDepth 100000 in
set_option maxHeartbeats 4000000 in
theorem W_X10_deepest_4 {X : pX} {Q : pO → Nat → pF → Prop} {mc ms : Nat} (l0 : Nat) (S : pS) : ∀ (a : Int32 × Int32) (r : (Int32 × Int32) ⊕ (Int32)), F_X10_deepest_4 l0 S a = some r → Sum.elim (fun a' => gW X mX10_deepest 4 (L_X10_deepest_4 l0 S a') [] (s_X10_deepest_4 l0 S a').1 (s_X10_deepest_4 l0 S a').2 Q mc ms) (K_X10_deepest_4 X Q mc ms l0 S) r → gW X mX10_deepest 4 (L_X10_deepest_4 l0 S a) [] (s_X10_deepest_4 l0 S a).1 (s_X10_deepest_4 l0 S a).2 Q mc ms := by
  intro a r hf hk
  obtain ⟨l1, l2⟩ := a
  unfold F_X10_deepest_4 at hf
  try dsimp only at hf
  change gW _ _ _ [some (.ref l0), some (.int l1), some (.int l2)] _ S.1 S.2 _ _ _
  refine r_iload_n (pc := 4) dX10_deepest_4 rfl ?_
  refine r_bipush (pc := 5) (61 : Int32) dX10_deepest_5 (by decide) ?_
  refine r_icmp_ge (pc := 7) 45 dX10_deepest_7 (by decide) (fun hc => ?_) (fun hc => ?_)
  · rw [if_pos hc] at hf
    cases hf
    exact gW.weak (by simp [gle]) hk
  · rw [if_neg hc] at hf
    refine r_aload_n (pc := 10) dX10_deepest_10 rfl ?_
    refine r_iload_n (pc := 11) dX10_deepest_11 rfl ?_
    replace hf := obind hf
    obtain ⟨q1, e2, hf⟩ := hf
    refine q_callV (pc := 12) (v := some (.int q1)) (S' := S) mX10_isItem 10 [.int l2] dX10_deepest_12 kX10_146 fX10_isItem iX10_isItem ⟨by decide, by decide⟩ rfl rfl rfl (Nat.le_of_ble_eq_true rfl) (og e2) (mc1 := 0) (ms1 := 0) (mc2 := mc) (ms2 := ms) (by omega) (by omega) (C_X10_isItem S l0 l2 q1 e2 (qR_mk _ _)) ?_
    change gW _ _ _ _ (.int q1 :: _) _ _ _ _ _
    refine r_if_eq (pc := 15) 37 dX10_deepest_15 (by decide) (fun hc => ?_) (fun hc => ?_)
    · rw [if_pos hc] at hf
      refine r_iload_n (pc := 37) dX10_deepest_37 rfl ?_
      refine r_istore_n (pc := 38) dX10_deepest_38 (by decide) ?_
      change gW _ _ _ [some (.ref l0), some (.int l1), some (.int l2)] _ _ _ _ _ _
      refine r_iinc (pc := 39) dX10_deepest_39 rfl (by decide) ?_
      change gW _ _ _ [some (.ref l0), some (.int l1), some (.int (l2 + (1 : Int32)))] _ _ _ _ _ _
      refine r_goto (pc := 42) 4 dX10_deepest_42 (by decide) ?_
      cases hf
      exact gW.weak (by simp [gle]) hk
    · rw [if_neg hc] at hf
      refine r_aload_n (pc := 18) dX10_deepest_18 rfl ?_
      replace hf := obind hf
      obtain ⟨x3, e4, hf⟩ := hf
      refine q_getA (pc := 19) dX10_deepest_19 gX10_47 e4 ?_
      refine r_iload_n (pc := 22) dX10_deepest_22 rfl ?_
      replace hf := obind hf
      obtain ⟨x5, e6, hf⟩ := hf
      refine q_iald (pc := 23) dX10_deepest_23 e6 ?_
      refine r_iload_n (pc := 24) dX10_deepest_24 rfl ?_
      refine r_icmp_le (pc := 25) 37 dX10_deepest_25 (by decide) (fun hc => ?_) (fun hc => ?_)
      · rw [if_pos hc] at hf
        refine r_iload_n (pc := 37) dX10_deepest_37 rfl ?_
        refine r_istore_n (pc := 38) dX10_deepest_38 (by decide) ?_
        change gW _ _ _ [some (.ref l0), some (.int l1), some (.int l2)] _ _ _ _ _ _
        refine r_iinc (pc := 39) dX10_deepest_39 rfl (by decide) ?_
        change gW _ _ _ [some (.ref l0), some (.int l1), some (.int (l2 + (1 : Int32)))] _ _ _ _ _ _
        refine r_goto (pc := 42) 4 dX10_deepest_42 (by decide) ?_
        cases hf
        exact gW.weak (by simp [gle]) hk
      · rw [if_neg hc] at hf
        refine r_aload_n (pc := 28) dX10_deepest_28 rfl ?_
        replace hf := obind hf
        obtain ⟨x7, e8, hf⟩ := hf
        refine q_getA (pc := 29) dX10_deepest_29 gX10_47 e8 ?_
        refine r_iload_n (pc := 32) dX10_deepest_32 rfl ?_
        replace hf := obind hf
        obtain ⟨x9, e10, hf⟩ := hf
        refine q_iald (pc := 33) dX10_deepest_33 e10 ?_
        refine r_goto (pc := 34) 38 dX10_deepest_34 (by decide) ?_
        refine r_istore_n (pc := 38) dX10_deepest_38 (by decide) ?_
        change gW _ _ _ [some (.ref l0), some (.int x9), some (.int l2)] _ _ _ _ _ _
        refine r_iinc (pc := 39) dX10_deepest_39 rfl (by decide) ?_
        change gW _ _ _ [some (.ref l0), some (.int x9), some (.int (l2 + (1 : Int32)))] _ _ _ _ _ _
        refine r_goto (pc := 42) 4 dX10_deepest_42 (by decide) ?_
        cases hf
        exact gW.weak (by simp [gle]) hk
def F_X10_deepest (S : pS) (a0 : Nat) : Option (Int32) := (oF S a0 10).bind fun _ => (iter (F_X10_deepest_4 a0 S) fu ((0 : Int32), (0 : Int32))).bind fun r11 => some r11
set_option maxRecDepth 100000 in
set_option maxHeartbeats 4000000 in
theorem C_X10_deepest {X : pX} {Q : pO → Nat → pF → Prop} (S : pS) (a0 : Nat) (r : Int32) (hf : F_X10_deepest S a0 = some r) (hk : Q (.inl (some (.int r))) S.1 S.2) : gC X mX10_deepest [.ref a0] S.1 S.2 Q 0 0 := by
  refine gC_of (by decide) (Nat.le_of_ble_eq_true rfl) rfl ?_
  change gW _ _ _ [some (.ref a0), none, none] _ _ _ _ _ _
  unfold F_X10_deepest at hf
  obtain ⟨_, _, hf⟩ := obind hf
  refine r_iconst (pc := 0) (0 : Int32) dX10_deepest_0 (by decide) ?_
  refine r_istore_n (pc := 1) dX10_deepest_1 (by decide) ?_
  change gW _ _ _ [some (.ref a0), some (.int (0 : Int32)), none] _ _ _ _ _ _
  refine r_iconst (pc := 2) (0 : Int32) dX10_deepest_2 (by decide) ?_
  refine r_istore_n (pc := 3) dX10_deepest_3 (by decide) ?_
  change gW _ _ _ [some (.ref a0), some (.int (0 : Int32)), some (.int (0 : Int32))] _ _ _ _ _ _
  replace hf := obind hf
  obtain ⟨r11, e12, hf⟩ := hf
  refine gW.weak (ls' := [some (.ref a0), some (.int (0 : Int32)), some (.int (0 : Int32))]) (by simp [gle]) ?_
  refine g_iter (L := L_X10_deepest_4 a0 S) (s := s_X10_deepest_4 a0 S) (K := K_X10_deepest_4 X Q _ _ a0 S) (W_X10_deepest_4 a0 S) fu ((0 : Int32), (0 : Int32)) _ e12 ?_
  show gW _ _ 45 [some (.ref a0), some (.int r11), none] [] S.1 S.2 _ _ _
  refine r_iload_n (pc := 45) dX10_deepest_45 rfl ?_
  refine r_ireturn (pc := 46) .int dX10_deepest_46 rfl rfl ?_
  cases hf
  exact hk
def F_X10_outline (S : pS) (a0 : Nat) (a1 : Int32) : Option (Int32 × pS) := (oF S a0 10).bind fun _ => (oPI S a0 10 0 (0 : Int32)).bind fun S1 => (F_X10_knows S1 a0).bind fun q3 => if a1 = (0 : Int32) then ((F_X10_items q3 a0).bind fun q5 => some (q5, q3)) else if a1 = (1 : Int32) then ((oGA q3 a0 10 1).bind fun x7 => (oAI q3 x7 .int (0 : Int32)).bind fun x9 => some (x9, q3)) else if a1 = (2 : Int32) then ((F_X10_allPlaces q3 a0).bind fun q11 => some (q11, q3)) else if a1 = (3 : Int32) then ((F_X10_lines q3 a0).bind fun q13 => (oGI q13 a0 10 41).bind fun x15 => some (x15, q13)) else if a1 = (4 : Int32) then ((F_X10_top q3 a0).bind fun q17 => some (q17, q3)) else if a1 = (5 : Int32) then ((oGI q3 a0 10 8).bind fun x19 => some (x19, q3)) else if a1 = (6 : Int32) then ((oGI q3 a0 10 30).bind fun x21 => some (x21, q3)) else if a1 = (7 : Int32) then ((F_X10_fitting q3 a0).bind fun q23 => some (q23, q3)) else if a1 = (8 : Int32) then ((oGI q3 a0 10 10).bind fun x25 => some (x25, q3)) else if a1 = (9 : Int32) then ((oGI q3 a0 10 5).bind fun x27 => some (x27, q3)) else if a1 = (10 : Int32) then ((F_X10_deepest q3 a0).bind fun q29 => some (q29, q3)) else ((F_X10_fails q3 a0 (1 : Int32)).bind fun q31 => some (q31.1, q31.2))
set_option maxRecDepth 100000 in
set_option maxHeartbeats 4000000 in
theorem C_X10_outline {X : pX} {Q : pO → Nat → pF → Prop} (S : pS) (a0 : Nat) (a1 : Int32) (r : Int32 × pS) (hf : F_X10_outline S a0 a1 = some r) (hk : Q (.inl (some (.int r.1))) r.2.1 r.2.2) : gC X mX10_outline [.ref a0, .int a1] S.1 S.2 Q 0 0 := by
  refine gC_of (by decide) (Nat.le_of_ble_eq_true rfl) rfl ?_
  change gW _ _ _ [some (.ref a0), some (.int a1)] _ _ _ _ _ _
  unfold F_X10_outline at hf
  obtain ⟨_, _, hf⟩ := obind hf
  refine r_aload_n (pc := 0) dX10_outline_0 rfl ?_
  refine r_iconst (pc := 1) (0 : Int32) dX10_outline_1 (by decide) ?_
  replace hf := obind hf
  obtain ⟨S1, e2, hf⟩ := hf
  refine q_putI (pc := 2) dX10_outline_2 pX10_139 rfl e2 ?_
  refine r_aload_n (pc := 5) dX10_outline_5 rfl ?_
  replace hf := obind hf
  obtain ⟨q3, e4, hf⟩ := hf
  refine q_callV (pc := 6) (v := none) (S' := q3) mX10_knows 10 [] dX10_outline_6 kX10_169 fX10_knows iX10_knows ⟨by decide, by decide⟩ rfl rfl rfl (Nat.le_of_ble_eq_true rfl) (og e4) (mc1 := 0) (ms1 := 0) (mc2 := 0) (ms2 := 0) (by decide) (by decide) (C_X10_knows S1 a0 q3 e4 (qR_mk _ _)) ?_
  refine r_iload_n (pc := 9) dX10_outline_9 rfl ?_
  by_cases hc0 : a1 = (0 : Int32)
  · rw [if_pos hc0] at hf
    refine r_tableIn (pc := 10) 68 dX10_outline_10 (by rw [hc0]; decide) (by rw [hc0]; decide) (off := 58) (by rw [hc0]; rfl) (by decide) ?_
    refine r_aload_n (pc := 68) dX10_outline_68 rfl ?_
    replace hf := obind hf
    obtain ⟨q5, e6, hf⟩ := hf
    refine q_callV (pc := 69) (v := some (.int q5)) (S' := q3) mX10_items 10 [] dX10_outline_69 kX10_190 fX10_items iX10_items ⟨by decide, by decide⟩ rfl rfl rfl (Nat.le_of_ble_eq_true rfl) (og e6) (mc1 := 0) (ms1 := 0) (mc2 := 0) (ms2 := 0) (by decide) (by decide) (C_X10_items q3 a0 q5 e6 (qR_mk _ _)) ?_
    change gW _ _ _ _ (.int q5 :: _) _ _ _ _ _
    refine r_ireturn (pc := 72) .int dX10_outline_72 rfl rfl ?_
    cases hf
    exact hk
  rw [if_neg hc0] at hf
  by_cases hc1 : a1 = (1 : Int32)
  · rw [if_pos hc1] at hf
    refine r_tableIn (pc := 10) 73 dX10_outline_10 (by rw [hc1]; decide) (by rw [hc1]; decide) (off := 63) (by rw [hc1]; rfl) (by decide) ?_
    refine r_aload_n (pc := 73) dX10_outline_73 rfl ?_
    replace hf := obind hf
    obtain ⟨x7, e8, hf⟩ := hf
    refine q_getA (pc := 74) dX10_outline_74 gX10_7 e8 ?_
    refine r_iconst (pc := 77) (0 : Int32) dX10_outline_77 (by decide) ?_
    replace hf := obind hf
    obtain ⟨x9, e10, hf⟩ := hf
    refine q_iald (pc := 78) dX10_outline_78 e10 ?_
    refine r_ireturn (pc := 79) .int dX10_outline_79 rfl rfl ?_
    cases hf
    exact hk
  rw [if_neg hc1] at hf
  by_cases hc2 : a1 = (2 : Int32)
  · rw [if_pos hc2] at hf
    refine r_tableIn (pc := 10) 80 dX10_outline_10 (by rw [hc2]; decide) (by rw [hc2]; decide) (off := 70) (by rw [hc2]; rfl) (by decide) ?_
    refine r_aload_n (pc := 80) dX10_outline_80 rfl ?_
    replace hf := obind hf
    obtain ⟨q11, e12, hf⟩ := hf
    refine q_callV (pc := 81) (v := some (.int q11)) (S' := q3) mX10_allPlaces 10 [] dX10_outline_81 kX10_179 fX10_allPlaces iX10_allPlaces ⟨by decide, by decide⟩ rfl rfl rfl (Nat.le_of_ble_eq_true rfl) (og e12) (mc1 := 0) (ms1 := 0) (mc2 := 0) (ms2 := 0) (by decide) (by decide) (C_X10_allPlaces q3 a0 q11 e12 (qR_mk _ _)) ?_
    change gW _ _ _ _ (.int q11 :: _) _ _ _ _ _
    refine r_ireturn (pc := 84) .int dX10_outline_84 rfl rfl ?_
    cases hf
    exact hk
  rw [if_neg hc2] at hf
  by_cases hc3 : a1 = (3 : Int32)
  · rw [if_pos hc3] at hf
    refine r_tableIn (pc := 10) 85 dX10_outline_10 (by rw [hc3]; decide) (by rw [hc3]; decide) (off := 75) (by rw [hc3]; rfl) (by decide) ?_
    refine r_aload_n (pc := 85) dX10_outline_85 rfl ?_
    replace hf := obind hf
    obtain ⟨q13, e14, hf⟩ := hf
    refine q_callV (pc := 86) (v := none) (S' := q13) mX10_lines 10 [] dX10_outline_86 kX10_257 fX10_lines iX10_lines ⟨by decide, by decide⟩ rfl rfl rfl (Nat.le_of_ble_eq_true rfl) (og e14) (mc1 := 0) (ms1 := 0) (mc2 := 0) (ms2 := 0) (by decide) (by decide) (C_X10_lines q3 a0 q13 e14 (qR_mk _ _)) ?_
    refine r_aload_n (pc := 89) dX10_outline_89 rfl ?_
    replace hf := obind hf
    obtain ⟨x15, e16, hf⟩ := hf
    refine q_getI (pc := 90) dX10_outline_90 gX10_260 e16 ?_
    refine r_ireturn (pc := 93) .int dX10_outline_93 rfl rfl ?_
    cases hf
    exact hk
  rw [if_neg hc3] at hf
  by_cases hc4 : a1 = (4 : Int32)
  · rw [if_pos hc4] at hf
    refine r_tableIn (pc := 10) 94 dX10_outline_10 (by rw [hc4]; decide) (by rw [hc4]; decide) (off := 84) (by rw [hc4]; rfl) (by decide) ?_
    refine r_aload_n (pc := 94) dX10_outline_94 rfl ?_
    replace hf := obind hf
    obtain ⟨q17, e18, hf⟩ := hf
    refine q_callV (pc := 95) (v := some (.int q17)) (S' := q3) mX10_top 10 [] dX10_outline_95 kX10_285 fX10_top iX10_top ⟨by decide, by decide⟩ rfl rfl rfl (Nat.le_of_ble_eq_true rfl) (og e18) (mc1 := 0) (ms1 := 0) (mc2 := 0) (ms2 := 0) (by decide) (by decide) (C_X10_top q3 a0 q17 e18 (qR_mk _ _)) ?_
    change gW _ _ _ _ (.int q17 :: _) _ _ _ _ _
    refine r_ireturn (pc := 98) .int dX10_outline_98 rfl rfl ?_
    cases hf
    exact hk
  rw [if_neg hc4] at hf
  by_cases hc5 : a1 = (5 : Int32)
  · rw [if_pos hc5] at hf
    refine r_tableIn (pc := 10) 99 dX10_outline_10 (by rw [hc5]; decide) (by rw [hc5]; decide) (off := 89) (by rw [hc5]; rfl) (by decide) ?_
    refine r_aload_n (pc := 99) dX10_outline_99 rfl ?_
    replace hf := obind hf
    obtain ⟨x19, e20, hf⟩ := hf
    refine q_getI (pc := 100) dX10_outline_100 gX10_154 e20 ?_
    refine r_ireturn (pc := 103) .int dX10_outline_103 rfl rfl ?_
    cases hf
    exact hk
  rw [if_neg hc5] at hf
  by_cases hc6 : a1 = (6 : Int32)
  · rw [if_pos hc6] at hf
    refine r_tableIn (pc := 10) 104 dX10_outline_10 (by rw [hc6]; decide) (by rw [hc6]; decide) (off := 94) (by rw [hc6]; rfl) (by decide) ?_
    refine r_aload_n (pc := 104) dX10_outline_104 rfl ?_
    replace hf := obind hf
    obtain ⟨x21, e22, hf⟩ := hf
    refine q_getI (pc := 105) dX10_outline_105 gX10_193 e22 ?_
    refine r_ireturn (pc := 108) .int dX10_outline_108 rfl rfl ?_
    cases hf
    exact hk
  rw [if_neg hc6] at hf
  by_cases hc7 : a1 = (7 : Int32)
  · rw [if_pos hc7] at hf
    refine r_tableIn (pc := 10) 109 dX10_outline_10 (by rw [hc7]; decide) (by rw [hc7]; decide) (off := 99) (by rw [hc7]; rfl) (by decide) ?_
    refine r_aload_n (pc := 109) dX10_outline_109 rfl ?_
    replace hf := obind hf
    obtain ⟨q23, e24, hf⟩ := hf
    refine q_callV (pc := 110) (v := some (.int q23)) (S' := q3) mX10_fitting 10 [] dX10_outline_110 kX10_288 fX10_fitting iX10_fitting ⟨by decide, by decide⟩ rfl rfl rfl (Nat.le_of_ble_eq_true rfl) (og e24) (mc1 := 0) (ms1 := 0) (mc2 := 0) (ms2 := 0) (by decide) (by decide) (C_X10_fitting q3 a0 q23 e24 (qR_mk _ _)) ?_
    change gW _ _ _ _ (.int q23 :: _) _ _ _ _ _
    refine r_ireturn (pc := 113) .int dX10_outline_113 rfl rfl ?_
    cases hf
    exact hk
  rw [if_neg hc7] at hf
  by_cases hc8 : a1 = (8 : Int32)
  · rw [if_pos hc8] at hf
    refine r_tableIn (pc := 10) 114 dX10_outline_10 (by rw [hc8]; decide) (by rw [hc8]; decide) (off := 104) (by rw [hc8]; rfl) (by decide) ?_
    refine r_aload_n (pc := 114) dX10_outline_114 rfl ?_
    replace hf := obind hf
    obtain ⟨x25, e26, hf⟩ := hf
    refine q_getI (pc := 115) dX10_outline_115 gX10_196 e26 ?_
    refine r_ireturn (pc := 118) .int dX10_outline_118 rfl rfl ?_
    cases hf
    exact hk
  rw [if_neg hc8] at hf
  by_cases hc9 : a1 = (9 : Int32)
  · rw [if_pos hc9] at hf
    refine r_tableIn (pc := 10) 119 dX10_outline_10 (by rw [hc9]; decide) (by rw [hc9]; decide) (off := 109) (by rw [hc9]; rfl) (by decide) ?_
    refine r_aload_n (pc := 119) dX10_outline_119 rfl ?_
    replace hf := obind hf
    obtain ⟨x27, e28, hf⟩ := hf
    refine q_getI (pc := 120) dX10_outline_120 gX10_157 e28 ?_
    refine r_ireturn (pc := 123) .int dX10_outline_123 rfl rfl ?_
    cases hf
    exact hk
  rw [if_neg hc9] at hf
  by_cases hc10 : a1 = (10 : Int32)
  · rw [if_pos hc10] at hf
    refine r_tableIn (pc := 10) 124 dX10_outline_10 (by rw [hc10]; decide) (by rw [hc10]; decide) (off := 114) (by rw [hc10]; rfl) (by decide) ?_
    refine r_aload_n (pc := 124) dX10_outline_124 rfl ?_
    replace hf := obind hf
    obtain ⟨q29, e30, hf⟩ := hf
    refine q_callV (pc := 125) (v := some (.int q29)) (S' := q3) mX10_deepest 10 [] dX10_outline_125 kX10_291 fX10_deepest iX10_deepest ⟨by decide, by decide⟩ rfl rfl rfl (Nat.le_of_ble_eq_true rfl) (og e30) (mc1 := 0) (ms1 := 0) (mc2 := 0) (ms2 := 0) (by decide) (by decide) (C_X10_deepest q3 a0 q29 e30 (qR_mk _ _)) ?_
    change gW _ _ _ _ (.int q29 :: _) _ _ _ _ _
    refine r_ireturn (pc := 128) .int dX10_outline_128 rfl rfl ?_
    cases hf
    exact hk
  rw [if_neg hc10] at hf
  refine r_tableOut (pc := 10) 129 dX10_outline_10 (by
    have := tsw_out a1 (0) 11 (fun j hj => by
      match j, hj with
      | 0, _ => exact hc0
      | 1, _ => exact hc1
      | 2, _ => exact hc2
      | 3, _ => exact hc3
      | 4, _ => exact hc4
      | 5, _ => exact hc5
      | 6, _ => exact hc6
      | 7, _ => exact hc7
      | 8, _ => exact hc8
      | 9, _ => exact hc9
      | 10, _ => exact hc10
      | j + 11, hj => exact absurd hj (by omega))
    simpa using this) (by decide) ?_
  refine r_aload_n (pc := 129) dX10_outline_129 rfl ?_
  refine r_iconst (pc := 130) (1 : Int32) dX10_outline_130 (by decide) ?_
  replace hf := obind hf
  obtain ⟨q31, e32, hf⟩ := hf
  refine q_callV (pc := 131) (v := some (.int q31.1)) (S' := q31.2) mX10_fails 10 [.int (1 : Int32)] dX10_outline_131 kX10_186 fX10_fails iX10_fails ⟨by decide, by decide⟩ rfl rfl rfl (Nat.le_of_ble_eq_true rfl) (og e32) (mc1 := 0) (ms1 := 0) (mc2 := 0) (ms2 := 0) (by decide) (by decide) (C_X10_fails q3 a0 (1 : Int32) q31 e32 (qR_mk _ _)) ?_
  change gW _ _ _ _ (.int q31.1 :: _) _ _ _ _ _
  refine r_ireturn (pc := 134) .int dX10_outline_134 rfl rfl ?_
  cases hf
  exact hk
def F_X10_doneShare_14 (S : pS) (l0 : Nat) (l1 : Int32) (t0 : Nat) (t1 : Int32) : Option (UInt32 × pS) := (oPI S t0 10 0 t1).bind fun S3 => (oGI S3 l0 10 0).bind fun x5 => if x5 ≤ 0 then ((F_X10_knows S3 l0).bind fun q7 => (F_X10_familyOf q7 l0 l1 (5 : Int32)).bind fun q9 => (F_X10_familyOf q7 l0 l1 (4 : Int32)).bind fun q11 => (oFdiv (FP.i2f q9) (FP.i2f q11)).bind fun x13 => some (x13, q7)) else (some ((0 : UInt32), S3))
set_option maxRecDepth 100000 in
set_option maxHeartbeats 4000000 in
theorem W_X10_doneShare_14 {X : pX} {Q : pO → Nat → pF → Prop} (S : pS) (l0 : Nat) (l1 : Int32) (t0 : Nat) (t1 : Int32) (r : UInt32 × pS) (hf : F_X10_doneShare_14 S l0 l1 t0 t1 = some r) (hk : Q (.inl (some (.float r.1))) r.2.1 r.2.2) : gW X mX10_doneShare 14 [some (.ref l0), some (.int l1)] [.int t1, .ref t0] S.1 S.2 Q 0 0 := by
  unfold F_X10_doneShare_14 at hf
  replace hf := obind hf
  obtain ⟨S3, e4, hf⟩ := hf
  refine q_putI (pc := 14) dX10_doneShare_14 pX10_139 rfl e4 ?_
  refine r_aload_n (pc := 17) dX10_doneShare_17 rfl ?_
  replace hf := obind hf
  obtain ⟨x5, e6, hf⟩ := hf
  refine q_getI (pc := 18) dX10_doneShare_18 gX10_139 e6 ?_
  refine r_if_le (pc := 21) 26 dX10_doneShare_21 (by decide) (fun hc => ?_) (fun hc => ?_)
  · rw [if_pos hc] at hf
    refine r_aload_n (pc := 26) dX10_doneShare_26 rfl ?_
    replace hf := obind hf
    obtain ⟨q7, e8, hf⟩ := hf
    refine q_callV (pc := 27) (v := none) (S' := q7) mX10_knows 10 [] dX10_doneShare_27 kX10_169 fX10_knows iX10_knows ⟨by decide, by decide⟩ rfl rfl rfl (Nat.le_of_ble_eq_true rfl) (og e8) (mc1 := 0) (ms1 := 0) (mc2 := 0) (ms2 := 0) (by decide) (by decide) (C_X10_knows S3 l0 q7 e8 (qR_mk _ _)) ?_
    refine r_aload_n (pc := 30) dX10_doneShare_30 rfl ?_
    refine r_iload_n (pc := 31) dX10_doneShare_31 rfl ?_
    refine r_iconst (pc := 32) (5 : Int32) dX10_doneShare_32 (by decide) ?_
    replace hf := obind hf
    obtain ⟨q9, e10, hf⟩ := hf
    refine q_callV (pc := 33) (v := some (.int q9)) (S' := q7) mX10_familyOf 10 [.int l1, .int (5 : Int32)] dX10_doneShare_33 kX10_279 fX10_familyOf iX10_familyOf ⟨by decide, by decide⟩ rfl rfl rfl (Nat.le_of_ble_eq_true rfl) (og e10) (mc1 := 0) (ms1 := 0) (mc2 := 0) (ms2 := 0) (by decide) (by decide) (C_X10_familyOf q7 l0 l1 (5 : Int32) q9 e10 (qR_mk _ _)) ?_
    change gW _ _ _ _ (.int q9 :: _) _ _ _ _ _
    refine r_i2f (pc := 36) dX10_doneShare_36 ?_
    refine r_aload_n (pc := 37) dX10_doneShare_37 rfl ?_
    refine r_iload_n (pc := 38) dX10_doneShare_38 rfl ?_
    refine r_iconst (pc := 39) (4 : Int32) dX10_doneShare_39 (by decide) ?_
    replace hf := obind hf
    obtain ⟨q11, e12, hf⟩ := hf
    refine q_callV (pc := 40) (v := some (.int q11)) (S' := q7) mX10_familyOf 10 [.int l1, .int (4 : Int32)] dX10_doneShare_40 kX10_279 fX10_familyOf iX10_familyOf ⟨by decide, by decide⟩ rfl rfl rfl (Nat.le_of_ble_eq_true rfl) (og e12) (mc1 := 0) (ms1 := 0) (mc2 := 0) (ms2 := 0) (by decide) (by decide) (C_X10_familyOf q7 l0 l1 (4 : Int32) q11 e12 (qR_mk _ _)) ?_
    change gW _ _ _ _ (.int q11 :: _) _ _ _ _ _
    refine r_i2f (pc := 43) dX10_doneShare_43 ?_
    replace hf := obind hf
    obtain ⟨x13, e14, hf⟩ := hf
    refine q_fdiv (pc := 44) dX10_doneShare_44 e14 ?_
    refine r_freturn (pc := 45) dX10_doneShare_45 rfl ?_
    cases hf
    exact hk
  · rw [if_neg hc] at hf
    refine r_fconst0 (pc := 24) dX10_doneShare_24 ?_
    refine r_freturn (pc := 25) dX10_doneShare_25 rfl ?_
    cases hf
    exact hk
def F_X10_doneShare (S : pS) (a0 : Nat) (a1 : Int32) : Option (UInt32 × pS) := (oF S a0 10).bind fun _ => (F_X10_isItem S a0 a1).bind fun q1 => if q1 = 0 then (F_X10_doneShare_14 S a0 a1 a0 (1 : Int32)) else (F_X10_doneShare_14 S a0 a1 a0 (0 : Int32))
set_option maxRecDepth 100000 in
set_option maxHeartbeats 4000000 in
theorem C_X10_doneShare {X : pX} {Q : pO → Nat → pF → Prop} (S : pS) (a0 : Nat) (a1 : Int32) (r : UInt32 × pS) (hf : F_X10_doneShare S a0 a1 = some r) (hk : Q (.inl (some (.float r.1))) r.2.1 r.2.2) : gC X mX10_doneShare [.ref a0, .int a1] S.1 S.2 Q 0 0 := by
  refine gC_of (by decide) (Nat.le_of_ble_eq_true rfl) rfl ?_
  change gW _ _ _ [some (.ref a0), some (.int a1)] _ _ _ _ _ _
  unfold F_X10_doneShare at hf
  obtain ⟨_, _, hf⟩ := obind hf
  refine r_aload_n (pc := 0) dX10_doneShare_0 rfl ?_
  refine r_aload_n (pc := 1) dX10_doneShare_1 rfl ?_
  refine r_iload_n (pc := 2) dX10_doneShare_2 rfl ?_
  replace hf := obind hf
  obtain ⟨q1, e2, hf⟩ := hf
  refine q_callV (pc := 3) (v := some (.int q1)) (S' := S) mX10_isItem 10 [.int a1] dX10_doneShare_3 kX10_146 fX10_isItem iX10_isItem ⟨by decide, by decide⟩ rfl rfl rfl (Nat.le_of_ble_eq_true rfl) (og e2) (mc1 := 0) (ms1 := 0) (mc2 := 0) (ms2 := 0) (by decide) (by decide) (C_X10_isItem S a0 a1 q1 e2 (qR_mk _ _)) ?_
  change gW _ _ _ _ (.int q1 :: _) _ _ _ _ _
  refine r_if_eq (pc := 6) 13 dX10_doneShare_6 (by decide) (fun hc => ?_) (fun hc => ?_)
  · rw [if_pos hc] at hf
    refine r_iconst (pc := 13) (1 : Int32) dX10_doneShare_13 (by decide) ?_
    refine gW.mono (mc := 0) (ms := 0) ?_ (fun _ _ _ q => q) (by decide) (by decide)
    exact gW.weak (by simp [gle]) (W_X10_doneShare_14 S a0 a1 a0 (1 : Int32) r hf hk)
  · rw [if_neg hc] at hf
    refine r_iconst (pc := 9) (0 : Int32) dX10_doneShare_9 (by decide) ?_
    refine r_goto (pc := 10) 14 dX10_doneShare_10 (by decide) ?_
    refine gW.mono (mc := 0) (ms := 0) ?_ (fun _ _ _ q => q) (by decide) (by decide)
    exact gW.weak (by simp [gle]) (W_X10_doneShare_14 S a0 a1 a0 (0 : Int32) r hf hk)
def F_X10_meanValue_14 (S : pS) (l0 : Nat) (l1 : Int32) (t0 : Nat) (t1 : Int32) : Option (UInt64 × pS) := (oPI S t0 10 0 t1).bind fun S3 => (oGI S3 l0 10 0).bind fun x5 => if x5 ≤ 0 then ((F_X10_knows S3 l0).bind fun q7 => (F_X10_familyOf q7 l0 l1 (1 : Int32)).bind fun q9 => (F_X10_familyOf q7 l0 l1 (0 : Int32)).bind fun q11 => (oDdiv (FP.i2d q9) (FP.i2d q11)).bind fun x13 => some (x13, q7)) else (some ((0 : UInt64), S3))
set_option maxRecDepth 100000 in
set_option maxHeartbeats 4000000 in
theorem W_X10_meanValue_14 {X : pX} {Q : pO → Nat → pF → Prop} (S : pS) (l0 : Nat) (l1 : Int32) (t0 : Nat) (t1 : Int32) (r : UInt64 × pS) (hf : F_X10_meanValue_14 S l0 l1 t0 t1 = some r) (hk : Q (.inl (some (.double r.1))) r.2.1 r.2.2) : gW X mX10_meanValue 14 [some (.ref l0), some (.int l1)] [.int t1, .ref t0] S.1 S.2 Q 0 0 := by
  unfold F_X10_meanValue_14 at hf
  replace hf := obind hf
  obtain ⟨S3, e4, hf⟩ := hf
  refine q_putI (pc := 14) dX10_meanValue_14 pX10_139 rfl e4 ?_
  refine r_aload_n (pc := 17) dX10_meanValue_17 rfl ?_
  replace hf := obind hf
  obtain ⟨x5, e6, hf⟩ := hf
  refine q_getI (pc := 18) dX10_meanValue_18 gX10_139 e6 ?_
  refine r_if_le (pc := 21) 26 dX10_meanValue_21 (by decide) (fun hc => ?_) (fun hc => ?_)
  · rw [if_pos hc] at hf
    refine r_aload_n (pc := 26) dX10_meanValue_26 rfl ?_
    replace hf := obind hf
    obtain ⟨q7, e8, hf⟩ := hf
    refine q_callV (pc := 27) (v := none) (S' := q7) mX10_knows 10 [] dX10_meanValue_27 kX10_169 fX10_knows iX10_knows ⟨by decide, by decide⟩ rfl rfl rfl (Nat.le_of_ble_eq_true rfl) (og e8) (mc1 := 0) (ms1 := 0) (mc2 := 0) (ms2 := 0) (by decide) (by decide) (C_X10_knows S3 l0 q7 e8 (qR_mk _ _)) ?_
    refine r_aload_n (pc := 30) dX10_meanValue_30 rfl ?_
    refine r_iload_n (pc := 31) dX10_meanValue_31 rfl ?_
    refine r_iconst (pc := 32) (1 : Int32) dX10_meanValue_32 (by decide) ?_
    replace hf := obind hf
    obtain ⟨q9, e10, hf⟩ := hf
    refine q_callV (pc := 33) (v := some (.int q9)) (S' := q7) mX10_familyOf 10 [.int l1, .int (1 : Int32)] dX10_meanValue_33 kX10_279 fX10_familyOf iX10_familyOf ⟨by decide, by decide⟩ rfl rfl rfl (Nat.le_of_ble_eq_true rfl) (og e10) (mc1 := 0) (ms1 := 0) (mc2 := 0) (ms2 := 0) (by decide) (by decide) (C_X10_familyOf q7 l0 l1 (1 : Int32) q9 e10 (qR_mk _ _)) ?_
    change gW _ _ _ _ (.int q9 :: _) _ _ _ _ _
    refine r_i2d (pc := 36) dX10_meanValue_36 ?_
    refine r_aload_n (pc := 37) dX10_meanValue_37 rfl ?_
    refine r_iload_n (pc := 38) dX10_meanValue_38 rfl ?_
    refine r_iconst (pc := 39) (0 : Int32) dX10_meanValue_39 (by decide) ?_
    replace hf := obind hf
    obtain ⟨q11, e12, hf⟩ := hf
    refine q_callV (pc := 40) (v := some (.int q11)) (S' := q7) mX10_familyOf 10 [.int l1, .int (0 : Int32)] dX10_meanValue_40 kX10_279 fX10_familyOf iX10_familyOf ⟨by decide, by decide⟩ rfl rfl rfl (Nat.le_of_ble_eq_true rfl) (og e12) (mc1 := 0) (ms1 := 0) (mc2 := 0) (ms2 := 0) (by decide) (by decide) (C_X10_familyOf q7 l0 l1 (0 : Int32) q11 e12 (qR_mk _ _)) ?_
    change gW _ _ _ _ (.int q11 :: _) _ _ _ _ _
    refine r_i2d (pc := 43) dX10_meanValue_43 ?_
    replace hf := obind hf
    obtain ⟨x13, e14, hf⟩ := hf
    refine q_ddiv (pc := 44) dX10_meanValue_44 e14 ?_
    refine r_dreturn (pc := 45) dX10_meanValue_45 rfl ?_
    cases hf
    exact hk
  · rw [if_neg hc] at hf
    refine r_dconst0 (pc := 24) dX10_meanValue_24 ?_
    refine r_dreturn (pc := 25) dX10_meanValue_25 rfl ?_
    cases hf
    exact hk
def F_X10_meanValue (S : pS) (a0 : Nat) (a1 : Int32) : Option (UInt64 × pS) := (oF S a0 10).bind fun _ => (F_X10_isItem S a0 a1).bind fun q1 => if q1 = 0 then (F_X10_meanValue_14 S a0 a1 a0 (1 : Int32)) else (F_X10_meanValue_14 S a0 a1 a0 (0 : Int32))
set_option maxRecDepth 100000 in
set_option maxHeartbeats 4000000 in
theorem C_X10_meanValue {X : pX} {Q : pO → Nat → pF → Prop} (S : pS) (a0 : Nat) (a1 : Int32) (r : UInt64 × pS) (hf : F_X10_meanValue S a0 a1 = some r) (hk : Q (.inl (some (.double r.1))) r.2.1 r.2.2) : gC X mX10_meanValue [.ref a0, .int a1] S.1 S.2 Q 0 0 := by
  refine gC_of (by decide) (Nat.le_of_ble_eq_true rfl) rfl ?_
  change gW _ _ _ [some (.ref a0), some (.int a1)] _ _ _ _ _ _
  unfold F_X10_meanValue at hf
  obtain ⟨_, _, hf⟩ := obind hf
  refine r_aload_n (pc := 0) dX10_meanValue_0 rfl ?_
  refine r_aload_n (pc := 1) dX10_meanValue_1 rfl ?_
  refine r_iload_n (pc := 2) dX10_meanValue_2 rfl ?_
  replace hf := obind hf
  obtain ⟨q1, e2, hf⟩ := hf
  refine q_callV (pc := 3) (v := some (.int q1)) (S' := S) mX10_isItem 10 [.int a1] dX10_meanValue_3 kX10_146 fX10_isItem iX10_isItem ⟨by decide, by decide⟩ rfl rfl rfl (Nat.le_of_ble_eq_true rfl) (og e2) (mc1 := 0) (ms1 := 0) (mc2 := 0) (ms2 := 0) (by decide) (by decide) (C_X10_isItem S a0 a1 q1 e2 (qR_mk _ _)) ?_
  change gW _ _ _ _ (.int q1 :: _) _ _ _ _ _
  refine r_if_eq (pc := 6) 13 dX10_meanValue_6 (by decide) (fun hc => ?_) (fun hc => ?_)
  · rw [if_pos hc] at hf
    refine r_iconst (pc := 13) (1 : Int32) dX10_meanValue_13 (by decide) ?_
    refine gW.mono (mc := 0) (ms := 0) ?_ (fun _ _ _ q => q) (by decide) (by decide)
    exact gW.weak (by simp [gle]) (W_X10_meanValue_14 S a0 a1 a0 (1 : Int32) r hf hk)
  · rw [if_neg hc] at hf
    refine r_iconst (pc := 9) (0 : Int32) dX10_meanValue_9 (by decide) ?_
    refine r_goto (pc := 10) 14 dX10_meanValue_10 (by decide) ?_
    refine gW.mono (mc := 0) (ms := 0) ?_ (fun _ _ _ q => q) (by decide) (by decide)
    exact gW.weak (by simp [gle]) (W_X10_meanValue_14 S a0 a1 a0 (0 : Int32) r hf hk)
def F_X10_wordOf (S : pS) (a0 : Int32) : Option (Nat) := if ¬ a0 = 0 then (if ¬ a0 = (1 : Int32) then (if ¬ a0 = (2 : Int32) then (some 8) else (some 7)) else (some 6)) else (some 5)
set_option maxRecDepth 100000 in
set_option maxHeartbeats 4000000 in
theorem C_X10_wordOf {X : pX} {Q : pO → Nat → pF → Prop} (S : pS) (a0 : Int32) (r : Nat) (hf : F_X10_wordOf S a0 = some r) (hk : Q (.inl (some (.retAddr r))) S.1 S.2) : gC X mX10_wordOf [.int a0] S.1 S.2 Q 0 0 := by
  refine gC_of (by decide) (Nat.le_of_ble_eq_true rfl) rfl ?_
  change gW _ _ _ [some (.int a0)] _ _ _ _ _ _
  unfold F_X10_wordOf at hf
  refine r_iload_n (pc := 0) dX10_wordOf_0 rfl ?_
  refine r_if_ne (pc := 1) 10 dX10_wordOf_1 (by decide) (fun hc => ?_) (fun hc => ?_)
  · rw [if_pos hc] at hf
    refine r_iload_n (pc := 10) dX10_wordOf_10 rfl ?_
    refine r_iconst (pc := 11) (1 : Int32) dX10_wordOf_11 (by decide) ?_
    refine r_icmp_ne (pc := 12) 21 dX10_wordOf_12 (by decide) (fun hc => ?_) (fun hc => ?_)
    · rw [if_pos hc] at hf
      refine r_iload_n (pc := 21) dX10_wordOf_21 rfl ?_
      refine r_iconst (pc := 22) (2 : Int32) dX10_wordOf_22 (by decide) ?_
      refine r_icmp_ne (pc := 23) 32 dX10_wordOf_23 (by decide) (fun hc => ?_) (fun hc => ?_)
      · rw [if_pos hc] at hf
        refine r_ldcSW (pc := 32) 7 dX10_wordOf_32 rfl ?_
        refine r_xreturn (pc := 35) "java/lang/String" dX10_wordOf_35 rfl ?_
        cases hf
        exact hk
      · rw [if_neg hc] at hf
        refine r_ldcSW (pc := 26) 6 dX10_wordOf_26 rfl ?_
        refine r_goto (pc := 29) 35 dX10_wordOf_29 (by decide) ?_
        refine r_xreturn (pc := 35) "java/lang/String" dX10_wordOf_35 rfl ?_
        cases hf
        exact hk
    · rw [if_neg hc] at hf
      refine r_ldcSW (pc := 15) 5 dX10_wordOf_15 rfl ?_
      refine r_goto (pc := 18) 35 dX10_wordOf_18 (by decide) ?_
      refine r_xreturn (pc := 35) "java/lang/String" dX10_wordOf_35 rfl ?_
      cases hf
      exact hk
  · rw [if_neg hc] at hf
    refine r_ldcSW (pc := 4) 4 dX10_wordOf_4 rfl ?_
    refine r_goto (pc := 7) 35 dX10_wordOf_7 (by decide) ?_
    refine r_xreturn (pc := 35) "java/lang/String" dX10_wordOf_35 rfl ?_
    cases hf
    exact hk
abbrev L_X10_stands_2 (l0 : Nat) (l1 : Nat) (S : pS) : Int32 → List (Option Value) := fun a => [some (.ref l0), some (.retAddr l1), some (.int a)]
abbrev s_X10_stands_2 (l0 : Nat) (l1 : Nat) (S : pS) : Int32 → pS := fun a => S
abbrev K_X10_stands_2 (X : pX) (Q : pO → Nat → pF → Prop) (mc ms : Nat) (l0 : Nat) (l1 : Nat) (S : pS) : Int32 → Prop := (fun b => gW X mX10_stands 48 [some (.ref l0), some (.retAddr l1), some (.int b)] [] S.1 S.2 Q mc ms)
def F_X10_stands_2 (l0 : Nat) (l1 : Nat) (S : pS) : Int32 → Option ((Int32) ⊕ (Int32)) := fun a => (oLen l1).bind fun x1 => if x1 ≤ a then (some (.inr a)) else ((oGI S l0 10 21).bind fun x3 => (oGI S l0 10 22).bind fun x5 => if x5 ≤ (x3 + a) then (some (.inr a)) else ((oGA S l0 10 9).bind fun x7 => (oGI S l0 10 21).bind fun x9 => (oAI S x7 .int (x9 + a)).bind fun x11 => (oChr l1 a).bind fun x13 => if ¬ x11 = x13 then (some (.inr a)) else (some (.inl (a + (1 : Int32))))))
set_option maxRecDepth 100000 in
set_option maxHeartbeats 4000000 in
theorem W_X10_stands_2 {X : pX} {Q : pO → Nat → pF → Prop} {mc ms : Nat} (l0 : Nat) (l1 : Nat) (S : pS) : ∀ (a : Int32) (r : (Int32) ⊕ (Int32)), F_X10_stands_2 l0 l1 S a = some r → Sum.elim (fun a' => gW X mX10_stands 2 (L_X10_stands_2 l0 l1 S a') [] (s_X10_stands_2 l0 l1 S a').1 (s_X10_stands_2 l0 l1 S a').2 Q mc ms) (K_X10_stands_2 X Q mc ms l0 l1 S) r → gW X mX10_stands 2 (L_X10_stands_2 l0 l1 S a) [] (s_X10_stands_2 l0 l1 S a).1 (s_X10_stands_2 l0 l1 S a).2 Q mc ms := by
  intro l2 r hf hk
  unfold F_X10_stands_2 at hf
  try dsimp only at hf
  change gW _ _ _ [some (.ref l0), some (.retAddr l1), some (.int l2)] _ S.1 S.2 _ _ _
  refine r_iload_n (pc := 2) dX10_stands_2 rfl ?_
  refine r_xload_n (pc := 3) dX10_stands_3 rfl ?_
  replace hf := obind hf
  obtain ⟨x1, e2, hf⟩ := hf
  refine q_len (pc := 4) dX10_stands_4 kX10_308 ⟨by decide, by decide⟩ (Nat.le_of_ble_eq_true rfl) (by omega) (by omega) e2 ?_
  refine r_icmp_ge (pc := 7) 48 dX10_stands_7 (by decide) (fun hc => ?_) (fun hc => ?_)
  · rw [if_pos hc] at hf
    cases hf
    exact gW.weak (by simp [gle]) hk
  · rw [if_neg hc] at hf
    refine r_aload_n (pc := 10) dX10_stands_10 rfl ?_
    replace hf := obind hf
    obtain ⟨x3, e4, hf⟩ := hf
    refine q_getI (pc := 11) dX10_stands_11 gX10_199 e4 ?_
    refine r_iload_n (pc := 14) dX10_stands_14 rfl ?_
    refine r_iadd (pc := 15) dX10_stands_15 ?_
    refine r_aload_n (pc := 16) dX10_stands_16 rfl ?_
    replace hf := obind hf
    obtain ⟨x5, e6, hf⟩ := hf
    refine q_getI (pc := 17) dX10_stands_17 gX10_202 e6 ?_
    refine r_icmp_ge (pc := 20) 48 dX10_stands_20 (by decide) (fun hc => ?_) (fun hc => ?_)
    · rw [if_pos hc] at hf
      cases hf
      exact gW.weak (by simp [gle]) hk
    · rw [if_neg hc] at hf
      refine r_aload_n (pc := 23) dX10_stands_23 rfl ?_
      replace hf := obind hf
      obtain ⟨x7, e8, hf⟩ := hf
      refine q_getA (pc := 24) dX10_stands_24 gX10_25 e8 ?_
      refine r_aload_n (pc := 27) dX10_stands_27 rfl ?_
      replace hf := obind hf
      obtain ⟨x9, e10, hf⟩ := hf
      refine q_getI (pc := 28) dX10_stands_28 gX10_199 e10 ?_
      refine r_iload_n (pc := 31) dX10_stands_31 rfl ?_
      refine r_iadd (pc := 32) dX10_stands_32 ?_
      replace hf := obind hf
      obtain ⟨x11, e12, hf⟩ := hf
      refine q_iald (pc := 33) dX10_stands_33 e12 ?_
      refine r_xload_n (pc := 34) dX10_stands_34 rfl ?_
      refine r_iload_n (pc := 35) dX10_stands_35 rfl ?_
      replace hf := obind hf
      obtain ⟨x13, e14, hf⟩ := hf
      refine q_chr (pc := 36) dX10_stands_36 kX10_312 ⟨by decide, by decide⟩ (Nat.le_of_ble_eq_true rfl) (by omega) (by omega) e14 ?_
      refine r_icmp_ne (pc := 39) 48 dX10_stands_39 (by decide) (fun hc => ?_) (fun hc => ?_)
      · rw [if_pos hc] at hf
        cases hf
        exact gW.weak (by simp [gle]) hk
      · rw [if_neg hc] at hf
        refine r_iinc (pc := 42) dX10_stands_42 rfl (by decide) ?_
        change gW _ _ _ [some (.ref l0), some (.retAddr l1), some (.int (l2 + (1 : Int32)))] _ _ _ _ _ _
        refine r_goto (pc := 45) 2 dX10_stands_45 (by decide) ?_
        cases hf
        exact gW.weak (by simp [gle]) hk
def F_X10_stands (S : pS) (a0 : Nat) (a1 : Nat) : Option (Int32) := (oF S a0 10).bind fun _ => (iter (F_X10_stands_2 a0 a1 S) fu (0 : Int32)).bind fun r15 => some r15
set_option maxRecDepth 100000 in
set_option maxHeartbeats 4000000 in
theorem C_X10_stands {X : pX} {Q : pO → Nat → pF → Prop} (S : pS) (a0 : Nat) (a1 : Nat) (r : Int32) (hf : F_X10_stands S a0 a1 = some r) (hk : Q (.inl (some (.int r))) S.1 S.2) : gC X mX10_stands [.ref a0, .retAddr a1] S.1 S.2 Q 0 0 := by
  refine gC_of (by decide) (Nat.le_of_ble_eq_true rfl) rfl ?_
  change gW _ _ _ [some (.ref a0), some (.retAddr a1), none] _ _ _ _ _ _
  unfold F_X10_stands at hf
  obtain ⟨_, _, hf⟩ := obind hf
  refine r_iconst (pc := 0) (0 : Int32) dX10_stands_0 (by decide) ?_
  refine r_istore_n (pc := 1) dX10_stands_1 (by decide) ?_
  change gW _ _ _ [some (.ref a0), some (.retAddr a1), some (.int (0 : Int32))] _ _ _ _ _ _
  replace hf := obind hf
  obtain ⟨r15, e16, hf⟩ := hf
  refine gW.weak (ls' := [some (.ref a0), some (.retAddr a1), some (.int (0 : Int32))]) (by simp [gle]) ?_
  refine g_iter (L := L_X10_stands_2 a0 a1 S) (s := s_X10_stands_2 a0 a1 S) (K := K_X10_stands_2 X Q _ _ a0 a1 S) (W_X10_stands_2 a0 a1 S) fu (0 : Int32) _ e16 ?_
  show gW _ _ 48 [some (.ref a0), some (.retAddr a1), some (.int r15)] [] S.1 S.2 _ _ _
  refine r_iload_n (pc := 48) dX10_stands_48 rfl ?_
  refine r_ireturn (pc := 49) .int dX10_stands_49 rfl rfl ?_
  cases hf
  exact hk
abbrev L_X10_number_34 (l0 : Nat) (l1 : Int32) : Int32 × Int32 × pS → List (Option Value) := fun a => [some (.ref l0), some (.int l1), some (.int a.1), some (.int a.2.1)]
abbrev s_X10_number_34 (l0 : Nat) (l1 : Int32) : Int32 × Int32 × pS → pS := fun a => a.2.2
abbrev K_X10_number_34 (X : pX) (Q : pO → Nat → pF → Prop) (mc ms : Nat) (l0 : Nat) (l1 : Int32) : Int32 × pS → Prop := (fun b => gW X mX10_number 97 [some (.ref l0), some (.int l1), some (.int b.1), none] [] b.2.1 b.2.2 Q mc ms)
def F_X10_number_68 (l0 : Nat) (l1 : Int32) (S : pS) (l2 : Int32) (l3 : Int32) : Option ((Int32 × Int32 × pS) ⊕ (Int32 × pS)) := (F_X10_here S l0).bind fun q11 => (oGI S l0 10 21).bind fun x13 => (oPI S l0 10 21 (x13 + (1 : Int32))).bind fun S15 => some (.inl ((((10 : Int32) * l2) + q11) - (48 : Int32), l3 + (1 : Int32), S15))
set_option maxRecDepth 100000 in
set_option maxHeartbeats 4000000 in
theorem W_X10_number_68 {X : pX} {Q : pO → Nat → pF → Prop} {mc ms : Nat} (l0 : Nat) (l1 : Int32) (S : pS) (l2 : Int32) (l3 : Int32) (r : (Int32 × Int32 × pS) ⊕ (Int32 × pS)) (hf : F_X10_number_68 l0 l1 S l2 l3 = some r) (hk : Sum.elim (fun a' => gW X mX10_number 34 (L_X10_number_34 l0 l1 a') [] (s_X10_number_34 l0 l1 a').1 (s_X10_number_34 l0 l1 a').2 Q mc ms) (K_X10_number_34 X Q mc ms l0 l1) r) : gW X mX10_number 68 [some (.ref l0), some (.int l1), some (.int l2), some (.int l3)] [] S.1 S.2 Q mc ms := by
  unfold F_X10_number_68 at hf
  refine r_bipush (pc := 68) (10 : Int32) dX10_number_68 (by decide) ?_
  refine r_iload_n (pc := 70) dX10_number_70 rfl ?_
  refine r_imul (pc := 71) dX10_number_71 ?_
  refine r_aload_n (pc := 72) dX10_number_72 rfl ?_
  replace hf := obind hf
  obtain ⟨q11, e12, hf⟩ := hf
  refine q_callV (pc := 73) (v := some (.int q11)) (S' := S) mX10_here 10 [] dX10_number_73 kX10_209 fX10_here iX10_here ⟨by decide, by decide⟩ rfl rfl rfl (Nat.le_of_ble_eq_true rfl) (og e12) (mc1 := 0) (ms1 := 0) (mc2 := mc) (ms2 := ms) (by omega) (by omega) (C_X10_here S l0 q11 e12 (qR_mk _ _)) ?_
  change gW _ _ _ _ (.int q11 :: _) _ _ _ _ _
  refine r_iadd (pc := 76) dX10_number_76 ?_
  refine r_bipush (pc := 77) (48 : Int32) dX10_number_77 (by decide) ?_
  refine r_isub (pc := 79) dX10_number_79 ?_
  refine r_istore_n (pc := 80) dX10_number_80 (by decide) ?_
  change gW _ _ _ [some (.ref l0), some (.int l1), some (.int ((((10 : Int32) * l2) + q11) - (48 : Int32))), some (.int l3)] _ _ _ _ _ _
  refine r_aload_n (pc := 81) dX10_number_81 rfl ?_
  refine r_dup (pc := 82) dX10_number_82 rfl ?_
  replace hf := obind hf
  obtain ⟨x13, e14, hf⟩ := hf
  refine q_getI (pc := 83) dX10_number_83 gX10_199 e14 ?_
  refine r_iconst (pc := 86) (1 : Int32) dX10_number_86 (by decide) ?_
  refine r_iadd (pc := 87) dX10_number_87 ?_
  replace hf := obind hf
  obtain ⟨S15, e16, hf⟩ := hf
  refine q_putI (pc := 88) dX10_number_88 pX10_199 rfl e16 ?_
  refine r_iinc (pc := 91) dX10_number_91 rfl (by decide) ?_
  change gW _ _ _ [some (.ref l0), some (.int l1), some (.int ((((10 : Int32) * l2) + q11) - (48 : Int32))), some (.int (l3 + (1 : Int32)))] _ _ _ _ _ _
  refine r_goto (pc := 94) 34 dX10_number_94 (by decide) ?_
  cases hf
  exact gW.weak (by simp [gle]) hk
def F_X10_number_34 (l0 : Nat) (l1 : Int32) : Int32 × Int32 × pS → Option ((Int32 × Int32 × pS) ⊕ (Int32 × pS)) := fun a => if l1 ≤ a.2.1 then (some (.inr (a.1, a.2.2))) else ((oGI a.2.2 l0 10 23).bind fun x5 => if x5 = 0 then (some (.inr (a.1, a.2.2))) else ((F_X10_here a.2.2 l0).bind fun q7 => (F_X10_in a.2.2 q7 (48 : Int32) (57 : Int32)).bind fun q9 => if q9 = 0 then (some (.inr (a.1, a.2.2))) else (if a.2.1 = 0 then (F_X10_number_68 l0 l1 a.2.2 a.1 a.2.1) else (if a.1 ≤ 0 then (some (.inr (a.1, a.2.2))) else (F_X10_number_68 l0 l1 a.2.2 a.1 a.2.1)))))
set_option maxRecDepth 100000 in
set_option maxHeartbeats 4000000 in
theorem W_X10_number_34 {X : pX} {Q : pO → Nat → pF → Prop} {mc ms : Nat} (l0 : Nat) (l1 : Int32) : ∀ (a : Int32 × Int32 × pS) (r : (Int32 × Int32 × pS) ⊕ (Int32 × pS)), F_X10_number_34 l0 l1 a = some r → Sum.elim (fun a' => gW X mX10_number 34 (L_X10_number_34 l0 l1 a') [] (s_X10_number_34 l0 l1 a').1 (s_X10_number_34 l0 l1 a').2 Q mc ms) (K_X10_number_34 X Q mc ms l0 l1) r → gW X mX10_number 34 (L_X10_number_34 l0 l1 a) [] (s_X10_number_34 l0 l1 a).1 (s_X10_number_34 l0 l1 a).2 Q mc ms := by
  intro a r hf hk
  obtain ⟨l2, l3, S⟩ := a
  unfold F_X10_number_34 at hf
  try dsimp only at hf
  change gW _ _ _ [some (.ref l0), some (.int l1), some (.int l2), some (.int l3)] _ S.1 S.2 _ _ _
  refine r_iload_n (pc := 34) dX10_number_34 rfl ?_
  refine r_iload_n (pc := 35) dX10_number_35 rfl ?_
  refine r_icmp_ge (pc := 36) 97 dX10_number_36 (by decide) (fun hc => ?_) (fun hc => ?_)
  · rw [if_pos hc] at hf
    cases hf
    exact gW.weak (by simp [gle]) hk
  · rw [if_neg hc] at hf
    refine r_aload_n (pc := 39) dX10_number_39 rfl ?_
    replace hf := obind hf
    obtain ⟨x5, e6, hf⟩ := hf
    refine q_getI (pc := 40) dX10_number_40 gX10_205 e6 ?_
    refine r_if_eq (pc := 43) 97 dX10_number_43 (by decide) (fun hc => ?_) (fun hc => ?_)
    · rw [if_pos hc] at hf
      cases hf
      exact gW.weak (by simp [gle]) hk
    · rw [if_neg hc] at hf
      refine r_aload_n (pc := 46) dX10_number_46 rfl ?_
      replace hf := obind hf
      obtain ⟨q7, e8, hf⟩ := hf
      refine q_callV (pc := 47) (v := some (.int q7)) (S' := S) mX10_here 10 [] dX10_number_47 kX10_209 fX10_here iX10_here ⟨by decide, by decide⟩ rfl rfl rfl (Nat.le_of_ble_eq_true rfl) (og e8) (mc1 := 0) (ms1 := 0) (mc2 := mc) (ms2 := ms) (by omega) (by omega) (C_X10_here S l0 q7 e8 (qR_mk _ _)) ?_
      change gW _ _ _ _ (.int q7 :: _) _ _ _ _ _
      refine r_bipush (pc := 50) (48 : Int32) dX10_number_50 (by decide) ?_
      refine r_bipush (pc := 52) (57 : Int32) dX10_number_52 (by decide) ?_
      replace hf := obind hf
      obtain ⟨q9, e10, hf⟩ := hf
      refine q_callS (pc := 54) (v := some (.int q9)) (S' := S) mX10_in [.int q7, .int (48 : Int32), .int (57 : Int32)] dX10_number_54 kX10_142 fX10_in sX10_in ⟨by decide, by decide⟩ rfl rfl (Nat.le_of_ble_eq_true rfl) (mc1 := 0) (ms1 := 0) (mc2 := mc) (ms2 := ms) (by omega) (by omega) (C_X10_in S q7 (48 : Int32) (57 : Int32) q9 e10 (qR_mk _ _)) ?_
      change gW _ _ _ _ (.int q9 :: _) _ _ _ _ _
      refine r_if_eq (pc := 57) 97 dX10_number_57 (by decide) (fun hc => ?_) (fun hc => ?_)
      · rw [if_pos hc] at hf
        cases hf
        exact gW.weak (by simp [gle]) hk
      · rw [if_neg hc] at hf
        refine r_iload_n (pc := 60) dX10_number_60 rfl ?_
        refine r_if_eq (pc := 61) 68 dX10_number_61 (by decide) (fun hc => ?_) (fun hc => ?_)
        · rw [if_pos hc] at hf
          exact gW.weak (by simp [gle]) (W_X10_number_68 l0 l1 S l2 l3 r hf hk)
        · rw [if_neg hc] at hf
          refine r_iload_n (pc := 64) dX10_number_64 rfl ?_
          refine r_if_le (pc := 65) 97 dX10_number_65 (by decide) (fun hc => ?_) (fun hc => ?_)
          · rw [if_pos hc] at hf
            cases hf
            exact gW.weak (by simp [gle]) hk
          · rw [if_neg hc] at hf
            exact gW.weak (by simp [gle]) (W_X10_number_68 l0 l1 S l2 l3 r hf hk)
def F_X10_number_29 (S : pS) (l0 : Nat) (l1 : Int32) (l2 : Int32) (t0 : Nat) (t1 : Int32) : Option (Int32 × pS) := (oPZ S t0 10 23 t1).bind fun S3 => (iter (F_X10_number_34 l0 l1) fu (l2, (0 : Int32), S3)).bind fun r17 => some (r17.1, r17.2)
set_option maxRecDepth 100000 in
set_option maxHeartbeats 4000000 in
theorem W_X10_number_29 {X : pX} {Q : pO → Nat → pF → Prop} (S : pS) (l0 : Nat) (l1 : Int32) (l2 : Int32) (t0 : Nat) (t1 : Int32) (r : Int32 × pS) (hf : F_X10_number_29 S l0 l1 l2 t0 t1 = some r) (hk : Q (.inl (some (.int r.1))) r.2.1 r.2.2) : gW X mX10_number 29 [some (.ref l0), some (.int l1), some (.int l2), none] [.int t1, .ref t0] S.1 S.2 Q 0 0 := by
  unfold F_X10_number_29 at hf
  replace hf := obind hf
  obtain ⟨S3, e4, hf⟩ := hf
  refine q_putZ (pc := 29) dX10_number_29 pX10_205 rfl e4 ?_
  refine r_iconst (pc := 32) (0 : Int32) dX10_number_32 (by decide) ?_
  refine r_istore_n (pc := 33) dX10_number_33 (by decide) ?_
  change gW _ _ _ [some (.ref l0), some (.int l1), some (.int l2), some (.int (0 : Int32))] _ _ _ _ _ _
  replace hf := obind hf
  obtain ⟨r17, e18, hf⟩ := hf
  refine gW.weak (ls' := [some (.ref l0), some (.int l1), some (.int l2), some (.int (0 : Int32))]) (by simp [gle]) ?_
  refine g_iter (L := L_X10_number_34 l0 l1) (s := s_X10_number_34 l0 l1) (K := K_X10_number_34 X Q _ _ l0 l1) (W_X10_number_34 l0 l1) fu (l2, (0 : Int32), S3) _ e18 ?_
  show gW _ _ 97 [some (.ref l0), some (.int l1), some (.int r17.1), none] [] r17.2.1 r17.2.2 _ _ _
  refine r_iload_n (pc := 97) dX10_number_97 rfl ?_
  refine r_ireturn (pc := 98) .int dX10_number_98 rfl rfl ?_
  cases hf
  exact hk
def F_X10_number_28 (S : pS) (l0 : Nat) (l1 : Int32) (l2 : Int32) (t0 : Nat) : Option (Int32 × pS) := F_X10_number_29 S l0 l1 l2 t0 (0 : Int32)
set_option maxRecDepth 100000 in
set_option maxHeartbeats 4000000 in
theorem W_X10_number_28 {X : pX} {Q : pO → Nat → pF → Prop} (S : pS) (l0 : Nat) (l1 : Int32) (l2 : Int32) (t0 : Nat) (r : Int32 × pS) (hf : F_X10_number_28 S l0 l1 l2 t0 = some r) (hk : Q (.inl (some (.int r.1))) r.2.1 r.2.2) : gW X mX10_number 28 [some (.ref l0), some (.int l1), some (.int l2), none] [.ref t0] S.1 S.2 Q 0 0 := by
  unfold F_X10_number_28 at hf
  refine r_iconst (pc := 28) (0 : Int32) dX10_number_28 (by decide) ?_
  refine gW.mono (mc := 0) (ms := 0) ?_ (fun _ _ _ q => q) (by decide) (by decide)
  exact gW.weak (by simp [gle]) (W_X10_number_29 S l0 l1 l2 t0 (0 : Int32) r hf hk)
def F_X10_number (S : pS) (a0 : Nat) (a1 : Int32) : Option (Int32 × pS) := (oF S a0 10).bind fun _ => (oGI S a0 10 23).bind fun x1 => if x1 = 0 then (F_X10_number_28 S a0 a1 (0 : Int32) a0) else ((F_X10_here S a0).bind fun q19 => (F_X10_in S q19 (48 : Int32) (57 : Int32)).bind fun q21 => if q21 = 0 then (F_X10_number_28 S a0 a1 (0 : Int32) a0) else (F_X10_number_29 S a0 a1 (0 : Int32) a0 (1 : Int32)))
set_option maxRecDepth 100000 in
set_option maxHeartbeats 4000000 in
theorem C_X10_number {X : pX} {Q : pO → Nat → pF → Prop} (S : pS) (a0 : Nat) (a1 : Int32) (r : Int32 × pS) (hf : F_X10_number S a0 a1 = some r) (hk : Q (.inl (some (.int r.1))) r.2.1 r.2.2) : gC X mX10_number [.ref a0, .int a1] S.1 S.2 Q 0 0 := by
  refine gC_of (by decide) (Nat.le_of_ble_eq_true rfl) rfl ?_
  change gW _ _ _ [some (.ref a0), some (.int a1), none, none] _ _ _ _ _ _
  unfold F_X10_number at hf
  obtain ⟨_, _, hf⟩ := obind hf
  refine r_iconst (pc := 0) (0 : Int32) dX10_number_0 (by decide) ?_
  refine r_istore_n (pc := 1) dX10_number_1 (by decide) ?_
  change gW _ _ _ [some (.ref a0), some (.int a1), some (.int (0 : Int32)), none] _ _ _ _ _ _
  refine r_aload_n (pc := 2) dX10_number_2 rfl ?_
  refine r_aload_n (pc := 3) dX10_number_3 rfl ?_
  replace hf := obind hf
  obtain ⟨x1, e2, hf⟩ := hf
  refine q_getI (pc := 4) dX10_number_4 gX10_205 e2 ?_
  refine r_if_eq (pc := 7) 28 dX10_number_7 (by decide) (fun hc => ?_) (fun hc => ?_)
  · rw [if_pos hc] at hf
    refine gW.mono (mc := 0) (ms := 0) ?_ (fun _ _ _ q => q) (by decide) (by decide)
    exact gW.weak (by simp [gle]) (W_X10_number_28 S a0 a1 (0 : Int32) a0 r hf hk)
  · rw [if_neg hc] at hf
    refine r_aload_n (pc := 10) dX10_number_10 rfl ?_
    replace hf := obind hf
    obtain ⟨q19, e20, hf⟩ := hf
    refine q_callV (pc := 11) (v := some (.int q19)) (S' := S) mX10_here 10 [] dX10_number_11 kX10_209 fX10_here iX10_here ⟨by decide, by decide⟩ rfl rfl rfl (Nat.le_of_ble_eq_true rfl) (og e20) (mc1 := 0) (ms1 := 0) (mc2 := 0) (ms2 := 0) (by decide) (by decide) (C_X10_here S a0 q19 e20 (qR_mk _ _)) ?_
    change gW _ _ _ _ (.int q19 :: _) _ _ _ _ _
    refine r_bipush (pc := 14) (48 : Int32) dX10_number_14 (by decide) ?_
    refine r_bipush (pc := 16) (57 : Int32) dX10_number_16 (by decide) ?_
    replace hf := obind hf
    obtain ⟨q21, e22, hf⟩ := hf
    refine q_callS (pc := 18) (v := some (.int q21)) (S' := S) mX10_in [.int q19, .int (48 : Int32), .int (57 : Int32)] dX10_number_18 kX10_142 fX10_in sX10_in ⟨by decide, by decide⟩ rfl rfl (Nat.le_of_ble_eq_true rfl) (mc1 := 0) (ms1 := 0) (mc2 := 0) (ms2 := 0) (by decide) (by decide) (C_X10_in S q19 (48 : Int32) (57 : Int32) q21 e22 (qR_mk _ _)) ?_
    change gW _ _ _ _ (.int q21 :: _) _ _ _ _ _
    refine r_if_eq (pc := 21) 28 dX10_number_21 (by decide) (fun hc => ?_) (fun hc => ?_)
    · rw [if_pos hc] at hf
      refine gW.mono (mc := 0) (ms := 0) ?_ (fun _ _ _ q => q) (by decide) (by decide)
      exact gW.weak (by simp [gle]) (W_X10_number_28 S a0 a1 (0 : Int32) a0 r hf hk)
    · rw [if_neg hc] at hf
      refine r_iconst (pc := 24) (1 : Int32) dX10_number_24 (by decide) ?_
      refine r_goto (pc := 25) 29 dX10_number_25 (by decide) ?_
      refine gW.mono (mc := 0) (ms := 0) ?_ (fun _ _ _ q => q) (by decide) (by decide)
      exact gW.weak (by simp [gle]) (W_X10_number_29 S a0 a1 (0 : Int32) a0 (1 : Int32) r hf hk)
