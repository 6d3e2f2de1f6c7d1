/-! lines: both sides -/
section LNS
variable {S : pS} {R : Nat → Option Nat} {c1 c2 t b m : Nat} {T : Tr} {L : List Cnd} {A : As}
def fmT (T : Tr) (L : List Cnd) : Int64 := bitsB fun i => tPres T i && decide (i ≠ 0) && fitB T L i
def linesT (A : As) : List Rw := rowsT (aT A) (shR (aT A) (aCn A).length (fmT (aT A) (aCn A))) (opR (aT A) (aCn A).length) (topH (aHo A))
theorem fam_or {T : Tr} (hT : tOk T) {c : Nat} (hc : tPres T c = true) : (belT T c ||| bitL c) = famT T c := lb_ext (fun i hi => by
  have hc61 := tOk_lt hT hc
  have := fam_bel hT c hc i hi
  rw [lb_or, lb_bitL (by omega) hi]
  cases e1 : lb (famT T c) i <;> cases e2 : lb (belT T c) i <;> simp_all)
theorem c_above (hk : SK S b T) (hT : tOk T) (x : Int64) : ∃ y, F_X6_itemsAtOrAbove S b x = some y ∧ ∀ i, tPres T i = true → lb y i = decide (¬ (famT T i &&& x) = 0) := by
  unfold F_X6_itemsAtOrAbove
  have hl := ord_len hT
  obtain ⟨r, e, hr⟩ := iter_fu (F := F_X6_itemsAtOrAbove_5 b x S) (s := ((0 : Int64), (0 : Int32))) (fun k y => y.2 = nI k ∧ ∀ i, i ∈ (ordT T).take k → lb y.1 i = decide (¬ (famT T i &&& x) = 0)) (P := fun r => ∀ i, i ∈ ordT T → lb r i = decide (¬ (famT T i &&& x) = 0)) (ordT T).length (by omega) ⟨rfl, fun i hi => by simp at hi⟩
    (by
      rintro ⟨z, y⟩ ⟨hy, hs⟩
      have hy' : y = nI (ordT T).length := hy
      subst hy'
      unfold F_X6_itemsAtOrAbove_5
      rw [s6_g3 hk.1, Option.bind_some, hk.2.1, if_pos (nI_le (Nat.le_refl _) (by omega))]
      rw [List.take_length] at hs
      exact ⟨_, rfl, hs⟩)
    (by
      rintro k ⟨z, y⟩ hk' ⟨hy, hs⟩
      have hy' : y = nI k := hy
      subst hy'
      have e1 : (ordT T)[k]? = some (ordT T)[k] := List.getElem?_eq_getElem hk'
      have hcp := (ord_mem hT _).mp (List.getElem_mem hk')
      generalize (ordT T)[k] = c at *
      have hc := tOk_lt hT hcp
      have fin : ∀ bb : Bool, bb = decide (¬ (famT T c &&& x) = 0) → ∀ i, i ∈ (ordT T).take (k + 1) → lb (withL z c bb) i = decide (¬ (famT T i &&& x) = 0) := by
        rintro bb rfl i hi
        have hi61 : i < 61 := tOk_lt hT ((ord_mem hT _).mp (List.mem_of_mem_take hi))
        rw [lb_withL _ _ (by omega) (by omega)]
        by_cases w : i = c
        · rw [if_pos w, w]
        · rw [if_neg w]
          rw [List.take_add_one, e1] at hi
          rcases List.mem_append.mp hi with w2 | w2
          · exact hs i w2
          · exact absurd (by simpa using w2) w
      unfold F_X6_itemsAtOrAbove_5 F_X6_itemsAtOrAbove_46
      rw [s6_g3 hk.1, Option.bind_some, hk.2.1, if_neg (nI_ge hk' (by omega)), s6_g2 hk.1, Option.bind_some, s6_r2 hk.1 (by omega), Option.bind_some, hk.2.2.1 k c e1, s6_g7 hk.1, Option.bind_some, Option.bind_some, s6_r2 hk.1 (by omega), Option.bind_some, hk.2.2.1 k c e1, s6_r7 hk.1 hc, Option.bind_some, (hk.2.2.2.2 c hcp).2]
      by_cases y : (famT T c &&& x) = 0
      · rw [if_pos ((lg_cmp0 _ _).mpr y), with_0, Option.bind_some, nI_1]
        exact ⟨_, rfl, rfl, fin false (by rw [decide_eq_false (fun w => w y)])⟩
      · rw [if_neg (fun w => y ((lg_cmp0 _ _).mp w)), with_1, Option.bind_some, nI_1]
        exact ⟨_, rfl, rfl, fin true (by rw [decide_eq_true y])⟩)
  rw [s6_oF hk.1, e, Option.bind_some]
  exact ⟨_, rfl, fun i hi => hr i ((ord_mem hT i).mpr hi)⟩
theorem top_ok (hA : aOk A) : tPres (aT A) (topH (aHo A)) = true := by
  unfold topH
  cases e : (aHo A).getLast? with
  | none => exact hA.1.1.1
  | some i => exact hA.2.2.2.2.2.1 i (List.mem_of_getLast? e)
theorem lines_pos (A : As) (hA : aOk A) : 0 < (linesT A).length ∧ (linesT A).length ≤ 301 := by
  have h := wlk_len hA.1.1 (shR (aT A) (aCn A).length (fmT (aT A) (aCn A))) (opR (aT A) (aCn A).length) 61 (topH (aHo A)) 0 0 [(topH (aHo A), -1000000, 0, -1)] (top_ok hA)
  have h1 := h.1.length_le
  have h2 := h.2
  have h3 := way_le hA.1.1 hA.1.2.1 _ (top_ok hA)
  have h4 := hA.1.2.2
  rw [List.length_singleton] at h1 h2
  exact ⟨h1, by unfold linesT rowsT; omega⟩
theorem c_countLines (h : CSr S A R c1 c2) (hA : aOk A) : ∃ S', F_X9_countLines S 0 = some (nI ((linesT A).length - 1), S') ∧ CSr S' A R c1 c2 ∧ Fm S S' ∧ LR S' 47 (linesT A) := by
  unfold F_X9_countLines
  obtain ⟨t, ht⟩ := cs_t h
  have hT := hA.1.1
  have htr := cs_tr h ht
  have hk := cs_sk h
  have hd := h.2.2.2.2.1
  have hl5 := hA.2.2.2.2.2.2.2.2.2.2.1
  have htp := (h.2.1.1 0 t (by omega) ht).1
  have h111 := h.1.1
  have hcc : (c1 = 35 ∧ c2 = 41) ∨ (c1 = 41 ∧ c2 = 35) := h.2.2.2.2.2.2.2.2.2.2.1
  have hsc := h.2.2.2.2.2.2.2.1
  have etop : F_X4_top S 33 = some (nI (topH (aHo A))) := c_topH h.2.2.2.1 hA.2.2.2.2.1
  have hw := Nat.le_trans (way_le hT hA.1.2.1 _ (top_ok hA)) hA.1.2.2
  have hlp := lines_pos A hA
  have es : F_X1_size S c1 = some (nI (aCn A).length) := by
    unfold F_X1_size
    rw [s1_oF hd.1, s1_g5 hd.1, Option.bind_some, hd.2.1]
  -- what find leaves
  have fin : ∀ S', LR S' 47 (linesT A) → Bk S S' 47 6 → F_X9_countLines_98 S' 0 = some (nI ((linesT A).length - 1), S') ∧ CSr S' A R c1 c2 ∧ Fm S S' := by
    intro S' hL hB
    have n1 : S'.1 = S.1 := hB.1
    have fr : ∀ q, ¬ (47 ≤ q ∧ q < 53) → S'.2 q = S.2 q := fun q hq => hB.2 q (by omega)
    have hs1 : SC S' c2 := by
      obtain ⟨z0, z1, z2, z3, z4, z5⟩ := hsc
      have l1 : sp1.length = 6 := rfl
      have l2 : sp2.length = 9 := rfl
      have l6 : sp6.length = 8 := rfl
      exact ⟨sh_fr z0 (by omega) (fun q q1 q2 => fr q (by omega)), sh_fr z1 (by omega) (fun q q1 q2 => fr q (by omega)), hL.1, sh_fr z3 (by omega) (fun q q1 q2 => fr q (by omega)), rawA_fr z4 (by omega) (fr 66 (by omega)), rawA_fr z5 (by omega) (fr 67 (by omega))⟩
    have h1 : CSr S' A R c1 c2 := CSr_fr h (by omega) hs1 (fun d hd => sh_fr (h.2.1.1 1 d (by omega) hd).2 (by omega) (fun q q1 q2 => fr q (by have := (h.2.1.1 1 d (by omega) hd).1; have : sp8.length = 7 := rfl; omega))) (fun q q1 q2 => fr q (fun z => q2 (Or.inr (Or.inr (Or.inl z)))))
    refine ⟨?_, h1, ⟨by omega, fun q q1 q2 => fr q (by omega)⟩⟩
    unfold F_X9_countLines_98 F_X5_size
    obtain ⟨N, hN⟩ : ∃ N, (linesT A).length = N + 1 := ⟨(linesT A).length - 1, by omega⟩
    rw [(x_gs h1.1).2.2.2.2.2.2.1, Option.bind_some, s5_oF hL.1, s5_g5 hL.1, Option.bind_some, hL.2.1, hN, nI_pred, Option.bind_some]
    rfl
  rw [x_oF h.1, (x_gs h.1).2.2.2.2.1, Option.bind_some, es, Option.bind_some]
  have hLS : Sh S 47 sp5 := hsc.2.2.1
  by_cases c0 : aCn A = []
  · rw [if_neg (fun z => z (by rw [c0]; rfl)), (x_gs h.1).2.2.2.2.2.2.1, Option.bind_some, x_g0 h.1 ht, Option.bind_some, (x_gs h.1).2.2.2.1, Option.bind_some, etop, Option.bind_some, Option.bind_some, c_present htr, Option.bind_some, Option.bind_some, c_folded htr, Option.bind_some]
    obtain ⟨S', e, hL, hB⟩ := c_find (sh := shR (aT A) (aCn A).length (fmT (aT A) (aCn A))) (op := opR (aT A) (aCn A).length) (l3 := fJ (S.2 t) 6) (opn := fJ (S.2 t) 8 ^^^ (-1 : Int64)) hT hLS htr (by omega) (top_ok hA) hw (fun c hc => by
      have := tOk_lt hT hc
      rw [htr.2.2.1 c (by omega), hc]
      unfold shR
      rw [c0]; rfl) (fun c hc => by
      have := tOk_lt hT hc
      rw [lb_not _ (by omega), (htr.2.2.2 c hc).2.1]
      unfold opR
      rw [c0]; rfl)
    obtain ⟨f1, f2, f3⟩ := fin S' hL hB
    rw [e, Option.bind_some]
    exact ⟨S', f1, f2, f3, hL⟩
  · have hlp : 0 < (aCn A).length := List.length_pos_iff.mpr c0
    obtain ⟨x, ex, hx⟩ := c_fitting htr hT hk hd hl5 (fun q hq => hA.2.2.2.2.2.2.2.2.2.2.2.1 q hq)
    have exf : x = fmT (aT A) (aCn A) := lb_ext (fun i hi => by
      unfold fmT
      rw [hx i hi, lb_bitsB _ hi]
      cases e : tPres (aT A) i
      · simp
      · rw [decide_eq_true (tOk_lt hT e)]; rfl)
    obtain ⟨y, ey, hy⟩ := c_above hk hT x
    rw [if_pos (fun z => c0 ((nI_len0 _ (by omega)).mp z)), (x_gs h.1).1, Option.bind_some, Option.bind_some, x_g0 h.1 ht, Option.bind_some, Option.bind_some, ex, Option.bind_some, ey, Option.bind_some, (x_gs h.1).2.2.2.2.2.2.1, Option.bind_some, Option.bind_some, (x_gs h.1).2.2.2.1, Option.bind_some, etop, Option.bind_some, Option.bind_some, c_present htr, Option.bind_some]
    obtain ⟨S', e, hL, hB⟩ := c_find (sh := shR (aT A) (aCn A).length (fmT (aT A) (aCn A))) (op := opR (aT A) (aCn A).length) (l3 := y) (opn := fJ (S.2 t) 6) hT hLS htr (by omega) (top_ok hA) hw (fun c hc => by
      rw [hy c hc, exf]
      unfold shR
      rw [decide_eq_false (show ¬ (aCn A).length = 0 by omega), Bool.false_or, fam_or hT hc]) (fun c hc => by
      have := tOk_lt hT hc
      rw [htr.2.2.1 c (by omega), hc]
      unfold opR
      rw [decide_eq_true hlp]; rfl)
    obtain ⟨f1, f2, f3⟩ := fin S' hL hB
    rw [e, Option.bind_some]
    exact ⟨S', f1, f2, f3, hL⟩
end LNS
