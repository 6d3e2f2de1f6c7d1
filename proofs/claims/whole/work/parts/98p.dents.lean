/-! indent, outdent: both sides -/
section DEN
variable {S : pS} {R : Nat → Option Nat} {c1 c2 m : Nat} {A : As} {T U : Tr}
def stIndent (A : As) (x : Int32) : Rs := match ixN x ((linesT A).length - 1) with
  | none => (A, 1, 0)
  | some j => if (rwL A j).2.2.1 = 0 then (A, 2, 0) else
    stMoveOk A 40 (abL A j) (rwL A j).2.2.1 1 ((tKids (aT A) (abL A j)).getD ((rwL A j).2.2.1 - 1) 0) (tKids (bPul (aT A) (abL A j) (rwL A j).2.2.1 1).1 ((tKids (aT A) (abL A j)).getD ((rwL A j).2.2.1 - 1) 0)).length (nI ((tKids (aT A) (abL A j)).getD ((rwL A j).2.2.1 - 1) 0))
def stOutdent (A : As) (x : Int32) : Rs := match ixN x ((linesT A).length - 1) with
  | none => (A, 1, 0)
  | some j => if dpR (linesT A) j = 0 then (A, 2, 0) else
    stMoveOk A 50 (abL A j) (rwL A j).2.2.1 1 (abL A (abvR (linesT A) (j + 1) - 1)) ((rwL A (abvR (linesT A) (j + 1) - 1)).2.2.1 + 1) (nI (abL A (abvR (linesT A) (j + 1) - 1)))
theorem LR_fr {S' : pS} {b : Nat} {acc : List Rw} (h : LR S b acc) (hn : S.1 ≤ S'.1) (e : ∀ q, b ≤ q → q < b + 6 → S'.2 q = S.2 q) : LR S' b acc := by
  refine ⟨sh_fr h.1 hn e, ?_⟩
  rw [e b (by omega) (by omega), e (b + 1) (by omega) (by omega), e (b + 2) (by omega) (by omega), e (b + 3) (by omega) (by omega), e (b + 4) (by omega) (by omega)]
  exact h.2
theorem c_copyD2 (h : CSr S A R c1 c2) (hA : aOk A) : ∃ t d S1, R 0 = some t ∧ R 1 = some d ∧ F_X8_copyFrom S d t = some S1 ∧ CSr S1 A R c1 c2 ∧ Fm S S1 ∧ TR S1 d (aT A) ∧ ∀ q, 15 ≤ q → q < 111 → S1.2 q = S.2 q := by
  obtain ⟨t, ht⟩ := cs_t h
  obtain ⟨d, hd⟩ := cs_d h
  have hs := (h.2.1.1 1 d (by omega) hd).2
  have hdp := (h.2.1.1 1 d (by omega) hd).1
  have hsep := h.2.1.2 1 0 d t (by omega) (by omega) (by omega) hd ht
  obtain ⟨S1, e, h1, h2⟩ := c_copy hs (h.2.2.2.2.2.2.2.2.1.1 t ht) hA.1.1 hsep
  obtain ⟨h3, h4⟩ := c_draft h hd h2 h1.1
  exact ⟨t, d, S1, ht, hd, e, h3, h4, h1, fun q q1 q2 => h2.2 q (by omega)⟩
theorem c_take1 (h : CSr S A R c1 c2) {d p f : Nat} (hd : R 1 = some d) (hU : TR S d U) (hok : tOk U) (hp : tPres U p = true) (hf : f + 1 ≤ (tKids U p).length) : ∃ S', F_X9_takeBlock S 0 (nI p) (nI f) (nI 1) = some S' ∧ S'.1 = S.1 ∧ ∀ q, 47 ≤ q → q < 53 → S'.2 q = S.2 q := by
  have h12 := (hok.2.2.2.1 p hp).1
  have hp61 := tOk_lt hok hp
  have hfl : f < (tKids U p).length := by omega
  unfold F_X9_takeBlock
  obtain ⟨e6, h6, f6, v6⟩ := c_w67 h (show 0 < 12 by omega) (nI (tKids U p)[f])
  have hdp := (h.2.1.1 1 d (by omega) hd).1
  have t6 : TR (wI S 67 0 (nI (tKids U p)[f])) d U := TR_fr hU (Nat.le_refl _) (fun q q1 q2 => wI_ne _ _ _ (by omega))
  obtain ⟨S3, e7, t7, b7⟩ := c_remove t6 hok hp hfl
  have e6' : oSI S 67 .int (0 : Int32) (nI (tKids U p)[f]) = some (wI S 67 0 (nI (tKids U p)[f])) := e6
  have st : F_X9_takeBlock_3 0 (nI p) (nI f) (nI 1) ((0 : Int32), S) = some (.inl (nI 1, S3)) := by
    unfold F_X9_takeBlock_3
    rw [if_neg (show ¬ nI 1 ≤ (0 : Int32) from by decide), (x_gs h.1).2.2.2.2.2.2.2.2.2.2.2.1, Option.bind_some, x_g1 h.1 hd, Option.bind_some]
    dsimp only
    rw [c_childAt hU hp61 (by omega) hp (List.getElem?_eq_getElem hfl), Option.bind_some, e6', Option.bind_some, x_g1 h6.1 hd, Option.bind_some, e7, Option.bind_some]
    rfl
  have ex : F_X9_takeBlock_3 0 (nI p) (nI f) (nI 1) (nI 1, S3) = some (.inr S3) := by
    unfold F_X9_takeBlock_3
    rw [if_pos (Int32.le_refl _)]
  rw [x_oF h.1, Run_end (Run_1 st) (by decide) ex, Option.bind_some]
  exact ⟨S3, rfl, b7.1, fun q q1 q2 => by rw [b7.2 q (by omega), wI_ne _ _ _ (show q ≠ 67 by omega)]⟩
theorem c_itemAbove {b : Nat} (hL : LR S b (linesT A)) (hA : aOk A) {j r dd : Nat} {row rw' : Rw} (h : LnR A j row r rw' dd) : F_X5_itemAbove S b (nI j) = some (nI rw'.1) ∧ F_X5_indexIn S b (nI j) = some (nI row.2.2.1) ∧ F_X5_itemOf S b (nI j) = some (nI row.1) ∧ (∀ j', r = j' + 1 → F_X5_lineAbove S b (nI j) = some (nI j')) := by
  have hl := lines_pos A hA
  have h1 := LnR_lt h
  have h2 := h.le
  have hrow := hL.2.2 _ _ h.at_
  have hup := hL.2.2 _ _ h.up
  refine ⟨?_, ?_, ?_, ?_⟩
  · unfold F_X5_itemAbove
    rw [s5_oF hL.1, s5_g0 hL.1, Option.bind_some, s5_g1 hL.1, Option.bind_some, nI_1, s5_r1 hL.1 (by omega), Option.bind_some, hrow.2.1, h.ab, s5_r0 hL.1 (by omega), Option.bind_some, hup.1]
  · unfold F_X5_indexIn
    rw [s5_oF hL.1, s5_g2 hL.1, Option.bind_some, nI_1, s5_r2 hL.1 (by omega), Option.bind_some, hrow.2.2.1]
  · rw [c_itemOf hL h1 hl.2]
    unfold rwI
    rw [LnR_get h]
  · intro j' hj'
    unfold F_X5_lineAbove
    rw [s5_oF hL.1, s5_g1 hL.1, Option.bind_some, nI_1, s5_r1 hL.1 (by omega), Option.bind_some, hrow.2.1, h.ab, hj', nI_pred]
theorem c_indent (h : CSr S A R c1 c2) (hA : aOk A) (x : Int32) : cC S (eN3 nISE nUOE) (F_X9_indent S 0 x) (stIndent A x) := by
  unfold F_X9_indent stIndent
  obtain ⟨S1, e1, h1, f1, L1⟩ := c_countLines h hA
  have hp := lines_pos A hA
  have hT := hA.1.1
  rw [x_oF h.1, e1, Option.bind_some]
  dsimp only
  rw [c_needLine h1 x (by omega), Option.bind_some]
  rcases ixN_c x (n := (linesT A).length - 1) (by omega) with ⟨j, hj, rfl, e⟩ | ⟨e, hx⟩
  · rw [e, if_pos (show (some j).isSome = true from rfl)]
    simp only [Sum.elim_inl]
    obtain ⟨row, r, rw', dd, hl, hit, hi0, hi61, hk12⟩ := line_row hA (show j + 1 < (linesT A).length by omega)
    have hrl := LnR_abL hA hl
    obtain ⟨a1, a2, a3, a4⟩ := c_itemAbove L1 hA hl
    obtain ⟨t, ht⟩ := cs_t h1
    have htr := cs_tr h1 ht
    rw [hrl.1, hrl.2, (x_gs h1.1).2.2.2.2.2.2.1, Option.bind_some, a1, Option.bind_some, Option.bind_some, a2, Option.bind_some]
    by_cases c : row.2.2.1 = 0
    · rw [if_pos c, if_neg (fun z => z (by rw [c]; rfl))]
      exact cC_x f1 (cs_of h1) (by decide) rfl
    · rw [if_neg c, if_pos (nI_n0 c (by omega)), x_g0 h1.1 ht, Option.bind_some]
      obtain ⟨k, hk⟩ : ∃ k, row.2.2.1 = k + 1 := ⟨row.2.2.1 - 1, by omega⟩
      have hkl := (List.getElem?_eq_some_iff.mp hl.kid).1
      have h12 := (hT.2.2.2.1 _ hl.pr).1
      have hq : (tKids (aT A) rw'.1)[k]? = some ((tKids (aT A) rw'.1).getD k 0) := by
        rw [List.getD_eq_getElem?_getD, List.getElem?_eq_getElem (show k < (tKids (aT A) rw'.1).length by omega)]; rfl
      have hqk := tOk_kid hT hl.pr (List.mem_of_getElem? hq)
      rw [hk, nI_pred, c_childAt htr (tOk_lt hT hl.pr) (by omega) hl.pr hq, Option.bind_some, Nat.add_sub_cancel]
      generalize (tKids (aT A) rw'.1).getD k 0 = q at *
      obtain ⟨t', d, S2, ht', hd, e2, h2, f2, t2, o2⟩ := c_copyD2 h1 hA
      rw [ht] at ht'
      cases ht'
      have hlen : (tKids (bPul (aT A) rw'.1 (k + 1) 1).1 q).length = (tKids (aT A) q).length := by rw [bPul_kids _ _ _ _ _ hqk.2.2.1]
      obtain ⟨S3, e3, h3, t3, cc⟩ := c_moveOk h1 hA hd h2 t2 hl.pr hqk.1 (show k + 1 + 1 ≤ (tKids (aT A) rw'.1).length by omega) (Nat.le_refl _) 40 (by decide) (nI q) (eN3 nISE nUOE) rfl f2
      have hok := bPul_ok hT rw'.1 (k + 1) 1
      have hpr := (bPul_pres (aT A) rw'.1 (k + 1) 1).1
      have e3' : F_X9_takeBlock S2 0 (nI rw'.1) (nI (k + 1)) (1 : Int32) = some S3 := e3
      rw [x_g1 h1.1 hd, Option.bind_some, Option.bind_some, e2, Option.bind_some, e3', Option.bind_some, x_g1 h3.1 hd, Option.bind_some, c_count t3 hqk.2.2.2 (by rw [hpr]; exact hqk.1), Option.bind_some]
      obtain ⟨S4, q1, q2, q3, q4⟩ := cc
      exact ⟨S4, Nat.le_trans f1.1 q1, q2, fun q hq1 hq2 => (q3 q hq1 hq2).trans (f1.2 q hq1 hq2), q4⟩
  · rw [e, if_neg (by simp)]
    exact cC_x f1 (cs_of h1) (by decide) rfl
theorem c_outdent (h : CSr S A R c1 c2) (hA : aOk A) (x : Int32) : cC S (eN3 nISE nUOE) (F_X9_outdent S 0 x) (stOutdent A x) := by
  unfold F_X9_outdent stOutdent
  obtain ⟨S1, e1, h1, f1, L1⟩ := c_countLines h hA
  have hp := lines_pos A hA
  have hT := hA.1.1
  rw [x_oF h.1, e1, Option.bind_some]
  dsimp only
  rw [c_needLine h1 x (by omega), Option.bind_some]
  rcases ixN_c x (n := (linesT A).length - 1) (by omega) with ⟨j, hj, rfl, e⟩ | ⟨e, hx⟩
  · rw [e, if_pos (show (some j).isSome = true from rfl)]
    simp only [Sum.elim_inl]
    obtain ⟨row, r, rw', dd, hl, hit, hi0, hi61, hk12⟩ := line_row hA (show j + 1 < (linesT A).length by omega)
    have hrl := LnR_abL hA hl
    have h60 := hl.d60
    rw [(LnR_abv hA hl).2.2, (LnR_abv hA hl).1, hrl.1, hrl.2, (x_gs h1.1).2.2.2.2.2.2.1, Option.bind_some, c_depthOf L1 hA hl, Option.bind_some]
    by_cases c : dd = 0
    · rw [if_pos c, if_neg (fun z => z (by rw [c]; rfl))]
      exact cC_x f1 (cs_of h1) (by decide) rfl
    · rw [if_neg c, if_pos (nI_n0 c (by omega)), Option.bind_some]
      obtain ⟨d0, rfl⟩ : ∃ d0, dd = d0 + 1 := ⟨dd - 1, by omega⟩
      obtain ⟨j', r', rw2, rfl, hj', hl'⟩ := LnR_up hA hl
      have hrl' := LnR_abL hA hl'
      obtain ⟨a1, a2, a3, a4⟩ := c_itemAbove L1 hA hl
      obtain ⟨b1, b2, b3, b4⟩ := c_itemAbove L1 hA hl'
      obtain ⟨t', d, S2, ht', hd, e2, h2, f2, t2, o2⟩ := c_copyD2 h1 hA
      have L2 : LR S2 47 (linesT A) := LR_fr L1 f2.1 (fun q q1 q2 => o2 q (by omega) (by omega))
      obtain ⟨a1', a2', a3', a4'⟩ := c_itemAbove L2 hA hl
      obtain ⟨b1', b2', b3', b4'⟩ := c_itemAbove L2 hA hl'
      have hkl := (List.getElem?_eq_some_iff.mp hl.kid).1
      have hkl' := (List.getElem?_eq_some_iff.mp hl'.kid).1
      have hpk := tOk_kid hT hl'.pr (List.mem_of_getElem? hl'.kid)
      have hne : rw2.1 ≠ rw'.1 := fun z => hpk.2.2.1 z.symm
      have hlen : (tKids (bPul (aT A) rw'.1 row.2.2.1 1).1 rw2.1).length = (tKids (aT A) rw2.1).length := by rw [bPul_kids _ _ _ _ _ hne]
      obtain ⟨S3, e3, h3, t3, cc⟩ := c_moveOk h1 hA hd h2 t2 hl.pr hl'.pr (show row.2.2.1 + 1 ≤ (tKids (aT A) rw'.1).length by omega) (i := rw'.2.2.1 + 1) (by omega) 50 (by decide) (nI rw2.1) (eN3 nISE nUOE) rfl f2
      obtain ⟨S3', e3', n3, o3⟩ := c_take1 h2 hd t2 hT hl.pr (show row.2.2.1 + 1 ≤ (tKids (aT A) rw'.1).length by omega)
      rw [e3] at e3'
      cases e3'
      have e3' : F_X9_takeBlock S2 0 (nI rw'.1) (nI row.2.2.1) (1 : Int32) = some S3 := e3
      have L3 : LR S3 47 (linesT A) := LR_fr L2 (Nat.le_of_eq n3.symm) (fun q q1 q2 => o3 q (by omega) (by omega))
      obtain ⟨b1'', b2'', b3'', b4''⟩ := c_itemAbove L3 hA hl'
      rw [Nat.add_sub_cancel, hrl'.1, hrl'.2, a4 j' rfl, Option.bind_some, Option.bind_some, b1, Option.bind_some, x_g1 h1.1 hd, Option.bind_some, x_g0 h1.1 ht', Option.bind_some, e2, Option.bind_some, (x_gs h2.1).2.2.2.2.2.2.1, Option.bind_some, b3', Option.bind_some, Option.bind_some, a2', Option.bind_some, e3', Option.bind_some, (x_gs h3.1).2.2.2.2.2.2.1, Option.bind_some, b2'', Option.bind_some, nI_1]
      obtain ⟨S4, q1, q2, q3, q4⟩ := cc
      exact ⟨S4, Nat.le_trans f1.1 q1, q2, fun q hq1 hq2 => (q3 q hq1 hq2).trans (f1.2 q hq1 hq2), q4⟩
  · rw [e, if_neg (by simp)]
    exact cC_x f1 (cs_of h1) (by decide) rfl
/-! the reference -/
theorem r_moves (h : RS S m A) (hA : aOk A) (hf : RT (cI (S.2 (m + 3))) (aT A)) {p f t c : Nat} (hp : tPres (aT A) p = true) (hc : (tKids (aT A) p)[f]? = some c) (ht : tPres (aT A) t = true) (a4 : Int32) {i : Nat} (hi : i ≤ (tKids (bPul (aT A) p f 1).1 t).length) (ha : a4 = nI i ∨ (a4 = -1 ∧ i = (tKids (bPul (aT A) p f 1).1 t).length)) (code : Int32) (hcode : code ≠ 30) :
    ∃ b S', F_X10_moves S m (nI p) (nI f) (nI t) a4 code = some (b, S') ∧ RS S' m (stMoveOk A code p f 1 t i (nI t)).1 ∧ Bk S S' m 41 ∧ (fI (S.2 m) 0 = 0 → fI (S'.2 m) 0 = (stMoveOk A code p f 1 t i (nI t)).2.1) ∧ ((stMoveOk A code p f 1 t i (nI t)).2.1 = 0 → b = (stMoveOk A code p f 1 t i (nI t)).2.2) := by
  have hT := hA.1.1
  have hck := tOk_kid hT hp (List.mem_of_getElem? hc)
  have hfl := (List.getElem?_eq_some_iff.mp hc).1
  have eU : (bPul (aT A) p f 1).1 = tPull (aT A) p f := rfl
  have eL : (bPul (aT A) p f 1).2 = [c] := by
    show ([] : List Nat) ++ [(tKids (aT A) p).getD f 0] = _
    rw [getD_of hc]; rfl
  have hok : tOk (tPull (aT A) p f) := pull_ok hT p f
  have hpr : tPres (tPull (aT A) p f) = tPres (aT A) := (bPul_pres (aT A) p f 1).1
  have htp : tPres (tPull (aT A) p f) t = true := by rw [hpr]; exact ht
  have hcp : tPres (tPull (aT A) p f) c = true := by rw [hpr]; exact hck.1
  obtain ⟨S1, e1, r1, m1⟩ := r_pulls h.1 hT hp hc
  obtain ⟨S2, e2, m2, k2⟩ := r_reason r1 hok (c := c) (p := t) htp hcp
  have r2 := MR_RR m2 (by decide) r1
  have m12 : MR S S2 m [1, 8, 9, 10, 11, 12, 13] [20] := MR_trans (MR_sub m1 (by decide) (by decide)) (MR_sub m2 (by decide) (by decide))
  have hsp : stMoveOk A code p f 1 t i (nI t) = if reaC (tPull (aT A) p f) c t = 0 then (aKeep A (tPut (tPull (aT A) p f) t i c), 0, nI t) else (aSetCh A [code, reaC (tPull (aT A) p f) c t], 3, 0) := by
    unfold stMoveOk moveT
    rw [eU, eL, bPut_cons]
    by_cases r0 : reaC (tPull (aT A) p f) c t = 0
    · rw [if_pos r0, if_pos r0]; rfl
    · rw [if_neg r0, if_neg r0]
      show (aSetCh A (if code = 30 then _ else _), _, _) = _
      rw [if_neg hcode]
  rw [eU] at hi ha
  unfold F_X10_moves
  rw [s10_oF h.1.1, e1, Option.bind_some]
  dsimp only
  rw [e2, Option.bind_some]
  dsimp only
  rw [hsp]
  by_cases r0 : reaC (tPull (aT A) p f) c t = 0
  · rw [if_pos r0, if_pos ((reaC_le _ _ _).mpr r0)]
    obtain ⟨b1, b2, b3, b4⟩ := reaC_0 hok htp r0
    have fin : ∃ b S', F_X10_moves_65 S2 m (nI t) (nI c) m (nI t) (nI i) = some (b, S') ∧ RS S' m (aKeep A (tPut (tPull (aT A) p f) t i c)) ∧ Bk S S' m 41 ∧ (fI (S.2 m) 0 = 0 → fI (S'.2 m) 0 = 0) ∧ b = nI t := by
      unfold F_X10_moves_65
      obtain ⟨S3, e3, r3, m3⟩ := r_puts r2 hok (c := c) htp hi b1
      have hok3 := put_ok hok htp hcp hck.2.1 hi b1 b2 b3
      have mm : MR S S3 m [1, 8, 9, 10, 11, 12, 13] [20] := MR_trans m12 (MR_sub m3 (by decide) (by decide))
      obtain ⟨S4, e4, h4, b4, t4⟩ := r_change h hA hf mm (by decide) (by decide) r3 hok3
      rw [e3, Option.bind_some, e4, Option.bind_some]
      exact ⟨_, _, rfl, h4, b4, fun z => by rw [t4, mm.2.2.2.2 0 (by decide)]; exact z, rfl⟩
    obtain ⟨b, S', g1, g2, g3, g4, g5⟩ := fin
    rcases ha with rfl | ⟨rfl, hi2⟩
    · rw [if_pos (nI_nm1 (by have := (hok.2.2.2.1 t htp).1; omega))]
      exact ⟨b, S', g1, g2, g3, g4, fun _ => g5⟩
    · have ht61 := tOk_lt hT ht
      rw [if_neg (fun z => z rfl), s10_g1 r2.1, Option.bind_some, li_916, nI_add, s10_r1 r2.1 (by omega), Option.bind_some, r_many r2 htp, ← hi2]
      exact ⟨b, S', g1, g2, g3, g4, fun _ => g5⟩
  · rw [if_neg r0, if_neg (fun z => r0 ((reaC_le _ _ _).mp z))]
    obtain ⟨S3, e3, x3, d3, c3⟩ := r_takesBack r2.1
    have m3 := MR_ofMd x3 d3 (by decide) (by decide)
    have h3 : RS S3 m A := by
      refine ⟨⟨x3, RT_eq ?_ hT c3⟩, RX_fr (RX_fr h.2 m12 (by decide) (by decide)) m3 (by decide) (by decide)⟩
      rw [m12.2.2.2.1 3 (by decide) (by decide)]
      exact hf
    rw [e3, Option.bind_some]
    obtain ⟨b, S', q1, q2, q3, q4, q5⟩ := rC_refuseN (Bk_trans (Bk_MR m12) (Bk_MR m3)) h3 code (reaC (tPull (aT A) p f) c t) 3 0 (by decide)
    exact ⟨b, S', q1, q2, q3, fun _ => q4, fun z => absurd (show (3 : Int32) = 0 from z) (by decide)⟩
theorem r_indent (h : RS S m A) (hA : aOk A) (x : Int32) : rC S m (F_X10_indent S m x) (stIndent A x) := by
  unfold F_X10_indent stIndent
  have hT := hA.1.1
  have hp := lines_pos A hA
  obtain ⟨S1, e1, h1, m1, t1⟩ := r_start h 0
  obtain ⟨S2, e2, h2, m2, f2⟩ := r_rem h1 hA
  obtain ⟨S3, e3, h3, m3, L3⟩ := r_lines h2 hA
  have b3 : Bk S S3 m 41 := Bk_trans (Bk_MR m1) (Bk_trans (Bk_MR m2) (Bk_MR m3))
  have t3 : fI (S3.2 m) 0 = 0 := by rw [m3.2.2.2.2 0 (by decide), m2.2.2.2.2 0 (by simp)]; exact t1
  have f3 : RT (cI (S3.2 (m + 3))) (aT A) := by rw [m3.2.2.2.1 3 (by decide) (by decide)]; exact f2
  rw [s10_oF h.1.1, e1, Option.bind_some, e2, Option.bind_some, e3, Option.bind_some, s10_g41 h3.1.1, Option.bind_some, L3.1, in_ix _ _ (by omega), Option.bind_some]
  rcases ixN_c x (n := (linesT A).length - 1) (by omega) with ⟨j, hj, rfl, e⟩ | ⟨e, hx⟩
  · rw [e, ite5 (b := (some j).isSome) rfl]
    dsimp only
    obtain ⟨row, r, rw', dd, hl, hit, hi0, hi61, hk12⟩ := line_row hA (show j + 1 < (linesT A).length by omega)
    have hrow := L3.2 _ _ hl.at_
    have hrl := LnR_abL hA hl
    rw [hrl.1, hrl.2, s10_g40 h3.1.1, Option.bind_some, s10_r40 h3.1.1 (by omega), Option.bind_some, hrow.2.2.1]
    by_cases c : row.2.2.1 = 0
    · rw [if_pos c, if_neg (fun z => z (by rw [c]; rfl))]
      exact rC_fail b3 h3 2 0 (by decide)
    · have hup : cI (S3.2 (m + 27)) j = nI rw'.1 := by
        obtain ⟨r3, rw3, a1, a2, a3, a4⟩ := hrow.2.2.2
        have e3 : r3 = r := (nI_eq (by omega) (by have := hl.le; omega)).mp (a1.symm.trans hl.ab)
        subst e3
        have e4 : rw3 = rw' := by have := hl.up; rw [a3] at this; exact Option.some.inj this
        subst e4
        exact a4
      obtain ⟨k, hk⟩ : ∃ k, row.2.2.1 = k + 1 := ⟨row.2.2.1 - 1, by omega⟩
      have hkl := (List.getElem?_eq_some_iff.mp hl.kid).1
      have h12 := (hT.2.2.2.1 _ hl.pr).1
      have hq : (tKids (aT A) rw'.1)[k]? = some ((tKids (aT A) rw'.1).getD k 0) := by
        rw [List.getD_eq_getElem?_getD, List.getElem?_eq_getElem (show k < (tKids (aT A) rw'.1).length by omega)]; rfl
      have hqk := tOk_kid hT hl.pr (List.mem_of_getElem? hq)
      rw [if_neg c, if_pos (nI_n0 c (by omega)), s10_g39 h3.1.1, Option.bind_some, s10_r39 h3.1.1 (by omega), Option.bind_some, Option.bind_some, s10_r40 h3.1.1 (by omega), Option.bind_some, Option.bind_some, s10_r39 h3.1.1 (by omega), Option.bind_some, Option.bind_some, s10_r40 h3.1.1 (by omega), Option.bind_some, hup, hrow.2.2.1, hk, nI_pred, r_child h3.1 (tOk_lt hT hl.pr) (by omega) hl.pr hq, Option.bind_some, Nat.add_sub_cancel]
      have hkid := hl.kid
      rw [hk] at hkid
      generalize (tKids (aT A) rw'.1).getD k 0 = q at *
      obtain ⟨b, S4, q1, q2, q3, q4, q5⟩ := r_moves h3 hA f3 hl.pr hkid hqk.1 (-1) (Nat.le_refl _) (Or.inr ⟨rfl, rfl⟩) 40 (by decide)
      rw [q1, Option.bind_some]
      exact ⟨b, S4, rfl, q2, Bk_trans b3 q3, q4 t3, q5⟩
  · rw [e, ite4 (b := (none : Option Nat).isSome) rfl]
    exact rC_fail b3 h3 1 0 (by decide)
theorem r_outdent (h : RS S m A) (hA : aOk A) (x : Int32) : rC S m (F_X10_outdent S m x) (stOutdent A x) := by
  unfold F_X10_outdent stOutdent
  have hT := hA.1.1
  have hp := lines_pos A hA
  obtain ⟨S1, e1, h1, m1, t1⟩ := r_start h 0
  obtain ⟨S2, e2, h2, m2, f2⟩ := r_rem h1 hA
  obtain ⟨S3, e3, h3, m3, L3⟩ := r_lines h2 hA
  have b3 : Bk S S3 m 41 := Bk_trans (Bk_MR m1) (Bk_trans (Bk_MR m2) (Bk_MR m3))
  have t3 : fI (S3.2 m) 0 = 0 := by rw [m3.2.2.2.2 0 (by decide), m2.2.2.2.2 0 (by simp)]; exact t1
  have f3 : RT (cI (S3.2 (m + 3))) (aT A) := by rw [m3.2.2.2.1 3 (by decide) (by decide)]; exact f2
  rw [s10_oF h.1.1, e1, Option.bind_some, e2, Option.bind_some, e3, Option.bind_some, s10_g41 h3.1.1, Option.bind_some, L3.1, in_ix _ _ (by omega), Option.bind_some]
  rcases ixN_c x (n := (linesT A).length - 1) (by omega) with ⟨j, hj, rfl, e⟩ | ⟨e, hx⟩
  · rw [e, ite5 (b := (some j).isSome) rfl]
    dsimp only
    obtain ⟨row, r, rw', dd, hl, hit, hi0, hi61, hk12⟩ := line_row hA (show j + 1 < (linesT A).length by omega)
    have hrow := L3.2 _ _ hl.at_
    have hrl := LnR_abL hA hl
    have h60 := hl.d60
    rw [(LnR_abv hA hl).2.2, (LnR_abv hA hl).1, hrl.1, hrl.2, s10_g38 h3.1.1, Option.bind_some, s10_r38 h3.1.1 (by omega), Option.bind_some, hrow.2.1, hl.dp]
    by_cases c : dd = 0
    · rw [if_pos c, if_neg (fun z => z (by rw [c]; rfl))]
      exact rC_fail b3 h3 2 0 (by decide)
    · obtain ⟨d0, rfl⟩ : ∃ d0, dd = d0 + 1 := ⟨dd - 1, by omega⟩
      obtain ⟨j', r', rw2, rfl, hj', hl'⟩ := LnR_up hA hl
      have hrl' := LnR_abL hA hl'
      have up2 : ∀ {j r dd : Nat} {row rw' : Rw}, LnR A j row r rw' dd → cI (S3.2 (m + 27)) j = nI rw'.1 ∧ cI (S3.2 (m + 28)) j = nI row.2.2.1 := by
        intro j r dd row rw' hl
        have hrow := L3.2 _ _ hl.at_
        have hlt := LnR_lt hl
        obtain ⟨r3, rw3, a1, a2, a3, a4⟩ := hrow.2.2.2
        have e3 : r3 = r := (nI_eq (by omega) (by have := hl.le; omega)).mp (a1.symm.trans hl.ab)
        subst e3
        have e4 : rw3 = rw' := by have := hl.up; rw [a3] at this; exact Option.some.inj this
        subst e4
        exact ⟨a4, hrow.2.2.1⟩
      have hkl := (List.getElem?_eq_some_iff.mp hl.kid).1
      have hkl' := (List.getElem?_eq_some_iff.mp hl'.kid).1
      have hpk := tOk_kid hT hl'.pr (List.mem_of_getElem? hl'.kid)
      have hne : rw2.1 ≠ rw'.1 := fun z => hpk.2.2.1 z.symm
      have hlen : (tKids (bPul (aT A) rw'.1 row.2.2.1 1).1 rw2.1).length = (tKids (aT A) rw2.1).length := by rw [bPul_kids _ _ _ _ _ hne]
      rw [if_neg c, if_pos (nI_n0 c (by omega)), r_upFrom h3 hA L3 hl, Option.bind_some, s10_g39 h3.1.1, Option.bind_some, s10_r39 h3.1.1 (by omega), Option.bind_some, s10_g40 h3.1.1, Option.bind_some, s10_r40 h3.1.1 (by omega), Option.bind_some, Option.bind_some, s10_r39 h3.1.1 (by omega), Option.bind_some, Option.bind_some, s10_r40 h3.1.1 (by omega), Option.bind_some, (up2 hl).1, (up2 hl).2, (up2 hl').1, (up2 hl').2, nI_1, Nat.add_sub_cancel, hrl'.1, hrl'.2]
      obtain ⟨b, S4, q1, q2, q3, q4, q5⟩ := r_moves h3 hA f3 hl.pr hl.kid hl'.pr (nI (rw'.2.2.1 + 1)) (i := rw'.2.2.1 + 1) (by omega) (Or.inl rfl) 50 (by decide)
      rw [q1, Option.bind_some]
      exact ⟨b, S4, rfl, q2, Bk_trans b3 q3, q4 t3, q5⟩
  · rw [e, ite4 (b := (none : Option Nat).isSome) rfl]
    exact rC_fail b3 h3 1 0 (by decide)
end DEN
