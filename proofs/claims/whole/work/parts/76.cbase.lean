/-! the class: trees are made and copied, the state settles -/
section CBA
variable {S : pS} {a b : Nat} {T : Tr}
theorem new_A {c k : Nat} {f : Nat → Value} (h : S.2 a = .inr (c, f)) (ha : a < S.1) (e : pE) : ∃ S1, oPA (oNew S e) a c k S.1 = some S1 ∧ S1.1 = S.1 + 1 ∧ S1.2 a = .inr (c, pu f k (.ref S.1)) ∧ S1.2 S.1 = e ∧ ∀ q, q ≠ a → q ≠ S.1 → S1.2 q = S.2 q := by
  have h2 : (oNew S e).2 a = .inr (c, f) := (pu_ne _ _ _ (by omega)).trans h
  refine ⟨((oNew S e).1, pu (oNew S e).2 a (.inr (c, pu f k (.ref S.1)))), ?_, rfl, pu_at (oNew S e).2 a _, ?_, fun q h1 h2 => ?_⟩
  · unfold oPA oP
    rw [oF_mk (show a < (oNew S e).1 from Nat.lt_succ_of_lt ha) h2, Option.bind_some]
  · show pu (oNew S e).2 a _ S.1 = e
    rw [pu_ne _ _ _ (by omega)]
    exact pu_at S.2 S.1 e
  · show pu (oNew S e).2 a _ q = _
    rw [pu_ne _ _ _ h1]
    exact pu_ne _ _ _ h2
theorem fld_P {c : Nat} {f : Nat → Value} (h : S.2 a = .inr (c, f)) (ha : a < S.1) (k : Nat) (v : Value) : ∃ S1, oP S a c k v = some S1 ∧ S1.1 = S.1 ∧ S1.2 a = .inr (c, pu f k v) ∧ ∀ q, q ≠ a → S1.2 q = S.2 q := by
  refine ⟨(S.1, pu S.2 a (.inr (c, pu f k v))), ?_, rfl, pu_at S.2 a _, fun q hq => pu_ne _ _ _ hq⟩
  unfold oP
  rw [oF_mk ha h, Option.bind_some]
def zI : Nat → Int32 := fun _ => 0
theorem fits0 (ty : FieldType) (h : ty = .int ∨ ty = .char ∨ ty = .boolean) : ∀ i, fits ty (.int (zI i)) = true := by
  intro i
  rcases h with rfl | rfl | rfl <;> rfl
theorem init8 {f : Nat → Value} (h : S.2 a = .inr (8, f)) (ha : a + 1 = S.1) : ∃ S', F_X8_init S a = some S' ∧ TR S' a tNew ∧ S'.1 = S.1 + 6 ∧ ∀ q, q < a → S'.2 q = S.2 q := by
  unfold F_X8_init
  obtain ⟨S1, e1, n1, f1, c1, o1⟩ := new_A (k := 0) h (by omega) (.inl (.int, 61, .inl (fun _ => 0)))
  rw [e1, Option.bind_some]
  obtain ⟨S2, e2, n2, f2, c2, o2⟩ := new_A (k := 1) f1 (by omega) (.inl (.int, 732, .inl (fun _ => 0)))
  rw [e2, Option.bind_some]
  obtain ⟨S3, e3, n3, f3, c3, o3⟩ := new_A (k := 2) f2 (by omega) (.inl (.int, 61, .inl (fun _ => 0)))
  rw [e3, Option.bind_some]
  obtain ⟨S4, e4, n4, f4, c4, o4⟩ := new_A (k := 3) f3 (by omega) (.inl (.char, 610, .inl (fun _ => 0)))
  rw [e4, Option.bind_some]
  obtain ⟨S5, e5, n5, f5, c5, o5⟩ := new_A (k := 4) f4 (by omega) (.inl (.int, 61, .inl (fun _ => 0)))
  rw [e5, Option.bind_some]
  obtain ⟨S6, e6, n6, f6, c6, o6⟩ := new_A (k := 5) f5 (by omega) (.inl (.int, 61, .inl (fun _ => 0)))
  rw [e6, Option.bind_some]
  obtain ⟨S7, e7, n7, f7, o7⟩ := fld_P f6 (by omega) 6 (.long 1)
  have e7' : oPJ S6 a 8 6 (1 : Int64) = some S7 := e7
  rw [e7', Option.bind_some]
  obtain ⟨S8, e8, n8, f8, o8⟩ := fld_P f7 (by omega) 7 (.long 0)
  have e8' : oPJ S7 a 8 7 (0 : Int64) = some S8 := e8
  rw [e8', Option.bind_some]
  obtain ⟨S9, e9, n9, f9, o9⟩ := fld_P f8 (by omega) 8 (.long 0)
  have e9' : oPJ S8 a 8 8 (0 : Int64) = some S9 := e9
  rw [e9', Option.bind_some]
  obtain ⟨S10, e10, n10, f10, o10⟩ := fld_P f9 (by omega) 9 (.int 0)
  have e10' : oPI S9 a 8 9 (0 : Int32) = some S10 := e10
  rw [e10', Option.bind_some]
  have hn : S10.1 = a + 7 := by omega
  have d1 : S10.2 (a + 1) = .inl (.int, 61, .inl zI) := by
    rw [o10 _ (by omega), o9 _ (by omega), o8 _ (by omega), o7 _ (by omega), o6 _ (by omega) (by omega), o5 _ (by omega) (by omega), o4 _ (by omega) (by omega), o3 _ (by omega) (by omega), o2 _ (by omega) (by omega), ha]; exact c1
  have d2 : S10.2 (a + 2) = .inl (.int, 732, .inl zI) := by
    rw [o10 _ (by omega), o9 _ (by omega), o8 _ (by omega), o7 _ (by omega), o6 _ (by omega) (by omega), o5 _ (by omega) (by omega), o4 _ (by omega) (by omega), o3 _ (by omega) (by omega), show a + 2 = S1.1 by omega]; exact c2
  have d3 : S10.2 (a + 3) = .inl (.int, 61, .inl zI) := by
    rw [o10 _ (by omega), o9 _ (by omega), o8 _ (by omega), o7 _ (by omega), o6 _ (by omega) (by omega), o5 _ (by omega) (by omega), o4 _ (by omega) (by omega), show a + 3 = S2.1 by omega]; exact c3
  have d4 : S10.2 (a + 4) = .inl (.char, 610, .inl zI) := by
    rw [o10 _ (by omega), o9 _ (by omega), o8 _ (by omega), o7 _ (by omega), o6 _ (by omega) (by omega), o5 _ (by omega) (by omega), show a + 4 = S3.1 by omega]; exact c4
  have d5 : S10.2 (a + 5) = .inl (.int, 61, .inl zI) := by
    rw [o10 _ (by omega), o9 _ (by omega), o8 _ (by omega), o7 _ (by omega), o6 _ (by omega) (by omega), show a + 5 = S4.1 by omega]; exact c5
  have d6 : S10.2 (a + 6) = .inl (.int, 61, .inl zI) := by
    rw [o10 _ (by omega), o9 _ (by omega), o8 _ (by omega), o7 _ (by omega), show a + 6 = S5.1 by omega]; exact c6
  have hsh : Sh S10 a sp8 := by
    refine ⟨by rw [hn]; exact Nat.le_refl _, fun i x hx => ?_⟩
    match i, hx with
    | 0, hx =>
      cases hx
      refine ⟨_, f10, fun k y hy => ?_⟩
      match k, hy with
      | 0, hy => cases hy; simp [pu, okF, ha]
      | 1, hy => cases hy; show pu _ 9 _ 1 = Value.ref (a + 2); rw [show a + 2 = S1.1 by omega]; simp [pu]
      | 2, hy => cases hy; show pu _ 9 _ 2 = Value.ref (a + 3); rw [show a + 3 = S2.1 by omega]; simp [pu]
      | 3, hy => cases hy; show pu _ 9 _ 3 = Value.ref (a + 4); rw [show a + 4 = S3.1 by omega]; simp [pu]
      | 4, hy => cases hy; show pu _ 9 _ 4 = Value.ref (a + 5); rw [show a + 5 = S4.1 by omega]; simp [pu]
      | 5, hy => cases hy; show pu _ 9 _ 5 = Value.ref (a + 6); rw [show a + 6 = S5.1 by omega]; simp [pu]
      | 6, hy => cases hy; simp [pu, okF]
      | 7, hy => cases hy; simp [pu, okF]
      | 8, hy => cases hy; simp [pu, okF]
      | 9, hy => cases hy; simp [pu, okF]
    | 1, hx => cases hx; exact ⟨_, d1, fits0 _ (by simp)⟩
    | 2, hx => cases hx; exact ⟨_, d2, fits0 _ (by simp)⟩
    | 3, hx => cases hx; exact ⟨_, d3, fits0 _ (by simp)⟩
    | 4, hx => cases hx; exact ⟨_, d4, fits0 _ (by simp)⟩
    | 5, hx => cases hx; exact ⟨_, d5, fits0 _ (by simp)⟩
    | 6, hx => cases hx; exact ⟨_, d6, fits0 _ (by simp)⟩
  rw [s8_g5 hsh, Option.bind_some]
  have ew : oSI S10 (a + 6) .int (0 : Int32) (-1) = some (wI S10 (a + 6) 0 (-1)) := s8_w5 hsh (i := 0) (by decide) (-1)
  rw [ew, Option.bind_some]
  have lo : ∀ q, q < a → S10.2 q = S.2 q := fun q hq => by
    rw [o10 _ (by omega), o9 _ (by omega), o8 _ (by omega), o7 _ (by omega), o6 _ (by omega) (by omega), o5 _ (by omega) (by omega), o4 _ (by omega) (by omega), o3 _ (by omega) (by omega), o2 _ (by omega) (by omega), o1 _ (by omega) (by omega)]
  have y9 : fI (S10.2 a) 9 = 0 := by rw [f10]; simp [fI, pu]
  have y6 : fJ (S10.2 a) 6 = 1 := by rw [f10]; simp [fJ, pu]
  have y7 : fJ (S10.2 a) 7 = 0 := by rw [f10]; simp [fJ, pu]
  have y8 : fJ (S10.2 a) 8 = 0 := by rw [f10]; simp [fJ, pu]
  have ga : ∀ q, q ≠ a + 6 → (wI S10 (a + 6) 0 (-1)).2 q = S10.2 q := fun q hq => wI_ne _ _ _ hq
  refine ⟨_, rfl, ⟨sh_wI hsh _ _ _, ?_, fun i hi => ?_, fun i hi => ?_⟩, by rw [wI_1]; omega, fun q hq => (ga q (by omega)).trans (lo q hq)⟩
  · rw [ga a (by omega), y9]; rfl
  · rw [ga a (by omega), y6, lb_1]; rfl
  · have : i = 0 := of_decide_eq_true hi
    subst this
    rw [ga a (by omega), ga (a + 5) (by omega), ga (a + 1) (by omega), ga (a + 2) (by omega), ga (a + 3) (by omega), ga (a + 4) (by omega), s8_v5 hsh, d1, d2, d3, d4, d5, y7, y8, lb_0]
    refine ⟨rfl, rfl, rfl, pu_at _ _ _, rfl, fun k c hc => ?_, rfl, fun k x hx => ?_⟩
    · have hc' : ([] : List Nat)[k]? = some c := hc
      simp at hc'
    · have hx' : ([] : List Int32)[k]? = some x := hx
      simp at hx'
theorem newTree (S : pS) : ∃ S', F_X8_init (oNew S (.inr (8, dfX8))) S.1 = some S' ∧ TR S' S.1 tNew ∧ S'.1 = S.1 + 7 ∧ ∀ q, q < S.1 → S'.2 q = S.2 q := by
  obtain ⟨S', e, h1, h2, h3⟩ := init8 (S := oNew S (.inr (8, dfX8))) (a := S.1) (f := dfX8) (pu_at S.2 S.1 _) rfl
  refine ⟨S', e, h1, by rw [h2]; rfl, fun q hq => (h3 q hq).trans (pu_ne _ _ _ (by omega))⟩
theorem cpy_all {g f : Nat → Int32} {n j : Nat} (h : j < n) : va_cpy g f 0 0 n j = g j := by
  rw [pk_cpy_in (Nat.zero_le _) (by omega)]
  congr 1
  omega
theorem c_copy (ha : Sh S a sp8) (h : TR S b T) (hT : tOk T) (hab : a + 7 ≤ b ∨ b + 7 ≤ a) : ∃ S', F_X8_copyFrom S a b = some S' ∧ TR S' a T ∧ Bk S S' a 7 := by
  have hb := h.1
  unfold F_X8_copyFrom
  have fr : ∀ {S1 S2 : pS}, Sh S1 b sp8 → S2.1 = S1.1 → (∀ q, (q < a ∨ a + 7 ≤ q) → S2.2 q = S1.2 q) → Sh S2 b sp8 := fun h1 h2 h3 => sh_fr h1 (Nat.le_of_eq h2.symm) (fun q q1 q2 => h3 q (by have : sp8.length = 7 := rfl; omega))
  rw [s8_oF ha, s8_g0 hb, Option.bind_some, s8_g0 ha, Option.bind_some]
  obtain ⟨l1, g1, q1, z1⟩ := sh_arr hb (j := 1) (ty := .int) (n := 61) rfl (by decide)
  obtain ⟨S1, e1, a1, n1, o1, v1⟩ := cpy_ok (s := 0) (d := 0) (k := 61) ha (j := 1) rfl (by decide) (by decide) (by decide) l1 q1 z1 (by decide) (by decide)
  have e1' : oCpy S .int (b + 1) (0 : Int32) (a + 1) (0 : Int32) (61 : Int32) = some S1 := e1
  have b1 := fr hb n1 (fun q hq => o1 q (by omega))
  rw [e1', Option.bind_some, s8_g1 b1, Option.bind_some, s8_g1 a1, Option.bind_some]
  obtain ⟨l2, g2, q2, z2⟩ := sh_arr b1 (j := 2) (ty := .int) (n := 732) rfl (by decide)
  obtain ⟨S2, e2, a2, n2, o2, v2⟩ := cpy_ok (s := 0) (d := 0) (k := 732) a1 (j := 2) rfl (by decide) (by decide) (by decide) l2 q2 z2 (by decide) (by decide)
  have e2' : oCpy S1 .int (b + 2) (0 : Int32) (a + 2) (0 : Int32) (732 : Int32) = some S2 := e2
  have b2 := fr b1 n2 (fun q hq => o2 q (by omega))
  rw [e2', Option.bind_some, s8_g2 b2, Option.bind_some, s8_g2 a2, Option.bind_some]
  obtain ⟨l3, g3, q3, z3⟩ := sh_arr b2 (j := 3) (ty := .int) (n := 61) rfl (by decide)
  obtain ⟨S3, e3, a3, n3, o3, v3⟩ := cpy_ok (s := 0) (d := 0) (k := 61) a2 (j := 3) rfl (by decide) (by decide) (by decide) l3 q3 z3 (by decide) (by decide)
  have e3' : oCpy S2 .int (b + 3) (0 : Int32) (a + 3) (0 : Int32) (61 : Int32) = some S3 := e3
  have b3 := fr b2 n3 (fun q hq => o3 q (by omega))
  rw [e3', Option.bind_some, s8_g3 b3, Option.bind_some, s8_g3 a3, Option.bind_some]
  obtain ⟨l4, g4, q4, z4⟩ := sh_arr b3 (j := 4) (ty := .char) (n := 610) rfl (by decide)
  obtain ⟨S4, e4, a4, n4, o4, v4⟩ := cpy_ok (s := 0) (d := 0) (k := 610) a3 (j := 4) rfl (by decide) (by decide) (by decide) l4 q4 z4 (by decide) (by decide)
  have e4' : oCpy S3 .char (b + 4) (0 : Int32) (a + 4) (0 : Int32) (610 : Int32) = some S4 := e4
  have b4 := fr b3 n4 (fun q hq => o4 q (by omega))
  rw [e4', Option.bind_some, s8_g4 b4, Option.bind_some, s8_g4 a4, Option.bind_some]
  obtain ⟨l5, g5, q5, z5⟩ := sh_arr b4 (j := 5) (ty := .int) (n := 61) rfl (by decide)
  obtain ⟨S5, e5, a5, n5, o5, v5⟩ := cpy_ok (s := 0) (d := 0) (k := 61) a4 (j := 5) rfl (by decide) (by decide) (by decide) l5 q5 z5 (by decide) (by decide)
  have e5' : oCpy S4 .int (b + 5) (0 : Int32) (a + 5) (0 : Int32) (61 : Int32) = some S5 := e5
  have b5 := fr b4 n5 (fun q hq => o5 q (by omega))
  rw [e5', Option.bind_some, s8_g5 b5, Option.bind_some, s8_g5 a5, Option.bind_some]
  obtain ⟨l6, g6, q6, z6⟩ := sh_arr b5 (j := 6) (ty := .int) (n := 61) rfl (by decide)
  obtain ⟨S6, e6, a6, n6, o6, v6⟩ := cpy_ok (s := 0) (d := 0) (k := 61) a5 (j := 6) rfl (by decide) (by decide) (by decide) l6 q6 z6 (by decide) (by decide)
  have e6' : oCpy S5 .int (b + 6) (0 : Int32) (a + 6) (0 : Int32) (61 : Int32) = some S6 := e6
  have b6 := fr b5 n6 (fun q hq => o6 q (by omega))
  rw [e6', Option.bind_some, s8_g6 b6, Option.bind_some, s8_p6 a6, Option.bind_some]
  have bb : ∀ q, q < a ∨ a + 7 ≤ q → S6.2 q = S.2 q := fun q hq => by
    rw [o6 q (by omega), o5 q (by omega), o4 q (by omega), o3 q (by omega), o2 q (by omega), o1 q (by omega)]
  have n6' : S6.1 = S.1 := by omega
  have fb : S6.2 b = S.2 b := bb b (by omega)
  have fa0 : S6.2 a = S.2 a := by rw [o6 a (by omega), o5 a (by omega), o4 a (by omega), o3 a (by omega), o2 a (by omega), o1 a (by omega)]
  rw [fb]
  have a7 := s8_k6 a6 a6 (fJ (S.2 b) 6)
  have w7 := s8_v6 a6 (fJ (S.2 b) 6)
  have o7 : ∀ q, q ≠ a → (wF S6 a 6 (.long (fJ (S.2 b) 6))).2 q = S6.2 q := fun q hq => wF_ne _ _ _ hq
  have n7 : (wF S6 a 6 (.long (fJ (S.2 b) 6))).1 = S.1 := n6'
  generalize wF S6 a 6 (.long (fJ (S.2 b) 6)) = S7 at *
  have b7 := fr b6 (n7.trans n6'.symm) (fun q hq => o7 q (by omega))
  rw [s8_g7 b7, Option.bind_some, o7 b (by omega), fb, s8_p7 a7, Option.bind_some]
  have a8 := s8_k7 a7 a7 (fJ (S.2 b) 7)
  have w8 := s8_v7 a7 (fJ (S.2 b) 7)
  have w86 : fJ ((wF S7 a 7 (.long (fJ (S.2 b) 7))).2 a) 6 = fJ (S.2 b) 6 := by rw [fJ_wF_ne _ _ _ (by decide)]; exact w7
  have o8 : ∀ q, q ≠ a → (wF S7 a 7 (.long (fJ (S.2 b) 7))).2 q = S6.2 q := fun q hq => (wF_ne _ _ _ hq).trans (o7 q hq)
  have n8 : (wF S7 a 7 (.long (fJ (S.2 b) 7))).1 = S.1 := n7
  generalize wF S7 a 7 (.long (fJ (S.2 b) 7)) = S8 at *
  have b8 := fr b6 (n8.trans n6'.symm) (fun q hq => o8 q (by omega))
  rw [s8_g8 b8, Option.bind_some, o8 b (by omega), fb, s8_p8 a8, Option.bind_some]
  have a9 := s8_k8 a8 a8 (fJ (S.2 b) 8)
  have w9 := s8_v8 a8 (fJ (S.2 b) 8)
  have w96 : fJ ((wF S8 a 8 (.long (fJ (S.2 b) 8))).2 a) 6 = fJ (S.2 b) 6 := by rw [fJ_wF_ne _ _ _ (by decide)]; exact w86
  have w97 : fJ ((wF S8 a 8 (.long (fJ (S.2 b) 8))).2 a) 7 = fJ (S.2 b) 7 := by rw [fJ_wF_ne _ _ _ (by decide)]; exact w8
  have o9 : ∀ q, q ≠ a → (wF S8 a 8 (.long (fJ (S.2 b) 8))).2 q = S6.2 q := fun q hq => (wF_ne _ _ _ hq).trans (o8 q hq)
  have n9 : (wF S8 a 8 (.long (fJ (S.2 b) 8))).1 = S.1 := n8
  generalize wF S8 a 8 (.long (fJ (S.2 b) 8)) = S9 at *
  have b9 := fr b6 (n9.trans n6'.symm) (fun q hq => o9 q (by omega))
  rw [s8_g9 b9, Option.bind_some, o9 b (by omega), fb, s8_p9 a9, Option.bind_some]
  have aa := s8_k9 a9 a9 (fI (S.2 b) 9)
  have wa := s8_v9 a9 (fI (S.2 b) 9)
  have wa6 : fJ ((wF S9 a 9 (.int (fI (S.2 b) 9))).2 a) 6 = fJ (S.2 b) 6 := by rw [fJ_wF_ne _ _ _ (by decide)]; exact w96
  have wa7 : fJ ((wF S9 a 9 (.int (fI (S.2 b) 9))).2 a) 7 = fJ (S.2 b) 7 := by rw [fJ_wF_ne _ _ _ (by decide)]; exact w97
  have wa8 : fJ ((wF S9 a 9 (.int (fI (S.2 b) 9))).2 a) 8 = fJ (S.2 b) 8 := by rw [fJ_wF_ne _ _ _ (by decide)]; exact w9
  have oa : ∀ q, q ≠ a → (wF S9 a 9 (.int (fI (S.2 b) 9))).2 q = S6.2 q := fun q hq => (wF_ne _ _ _ hq).trans (o9 q hq)
  have na : (wF S9 a 9 (.int (fI (S.2 b) 9))).1 = S.1 := n9
  generalize wF S9 a 9 (.int (fI (S.2 b) 9)) = SA at *
  obtain ⟨t1, t2, t3, t4⟩ := h
  refine ⟨SA, rfl, ⟨aa, by rw [wa]; exact t2, fun i hi => by rw [wa6]; exact t3 i hi, fun i hi => ?_⟩, na, fun q hq => (oa q (by omega)).trans (bb q hq)⟩
  have hi61 := tOk_lt hT hi
  have hk12 := (hT.2.2.2.1 i hi).1
  have hn10 := (hT.2.2.2.2.1 i hi).1
  obtain ⟨w1, w2, w3, w4, w5, w6', w7', w8'⟩ := t4 i hi
  have c1 : ∀ j, j < 61 → cI (SA.2 (a + 1)) j = cI (S.2 (b + 1)) j := fun j hj => by
    rw [oa _ (by omega), o6 _ (by omega), o5 _ (by omega), o4 _ (by omega), o3 _ (by omega), o2 _ (by omega), v1, cpy_all hj, q1]; rfl
  have c2 : ∀ j, j < 732 → cI (SA.2 (a + 2)) j = cI (S.2 (b + 2)) j := fun j hj => by
    rw [oa _ (by omega), o6 _ (by omega), o5 _ (by omega), o4 _ (by omega), o3 _ (by omega), v2, cpy_all hj, ← o1 (b + 2) (by omega), q2]; rfl
  have c3 : ∀ j, j < 61 → cI (SA.2 (a + 3)) j = cI (S.2 (b + 3)) j := fun j hj => by
    rw [oa _ (by omega), o6 _ (by omega), o5 _ (by omega), o4 _ (by omega), v3, cpy_all hj, ← o1 (b + 3) (by omega), ← o2 (b + 3) (by omega), q3]; rfl
  have c4 : ∀ j, j < 610 → cI (SA.2 (a + 4)) j = cI (S.2 (b + 4)) j := fun j hj => by
    rw [oa _ (by omega), o6 _ (by omega), o5 _ (by omega), v4, cpy_all hj, ← o1 (b + 4) (by omega), ← o2 (b + 4) (by omega), ← o3 (b + 4) (by omega), q4]; rfl
  have c5 : ∀ j, j < 61 → cI (SA.2 (a + 5)) j = cI (S.2 (b + 5)) j := fun j hj => by
    rw [oa _ (by omega), o6 _ (by omega), v5, cpy_all hj, ← o1 (b + 5) (by omega), ← o2 (b + 5) (by omega), ← o3 (b + 5) (by omega), ← o4 (b + 5) (by omega), q5]; rfl
  have c6 : ∀ j, j < 61 → cI (SA.2 (a + 6)) j = cI (S.2 (b + 6)) j := fun j hj => by
    rw [oa _ (by omega), v6, cpy_all hj, ← o1 (b + 6) (by omega), ← o2 (b + 6) (by omega), ← o3 (b + 6) (by omega), ← o4 (b + 6) (by omega), ← o5 (b + 6) (by omega), q6]; rfl
  rw [wa7, wa8, c1 i hi61, c3 i hi61, c5 i hi61, c6 i hi61]
  refine ⟨w1, w2, w3, w4, w5, fun k c hc => ?_, w7', fun k x hx => ?_⟩
  · have := (List.getElem?_eq_some_iff.mp hc).1
    rw [c2 _ (by omega)]; exact w6' k c hc
  · have := (List.getElem?_eq_some_iff.mp hx).1
    rw [c4 _ (by omega)]; exact w8' k x hx
end CBA
