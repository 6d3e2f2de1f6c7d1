/-! line, path: both sides -/
section LIN
variable {S : pS} {R : Nat → Option Nat} {c1 c2 m : Nat} {A : As}
/-- the row of a line, the item above it -/
def rwL (A : As) (j : Nat) : Rw := (linesT A).getD (j + 1) (0, 0, 0, 0)
def abL (A : As) (j : Nat) : Nat := itR (linesT A) (abvR (linesT A) (j + 1))
def linV (A : As) (j : Nat) (w : Int32) : Option Int32 :=
  if w = 0 then some (nI (rwL A j).1) else if w = 1 then some (rwL A j).2.2.2 else if w = 2 then some (nI (abL A j)) else if w = 3 then some (nI (rwL A j).2.2.1) else if w = 4 then some (nI ((pthX A j).length - 1)) else if w = 5 then some (if fitB (aT A) (aCn A) (rwL A j).1 = true then 1 else 0) else none
def stLine (A : As) (x w : Int32) : Rs := match ixN x ((linesT A).length - 1) with
  | none => (A, 1, 0)
  | some j => match linV A j w with
    | none => (A, 2, 0)
    | some v => (A, 0, v)
def stPath (A : As) (x y : Int32) : Rs := match ixN x ((linesT A).length - 1) with
  | none => (A, 1, 0)
  | some j => match ixN y ((pthX A j).length - 1) with
    | none => (A, 2, 0)
    | some e => (A, 0, (pthX A j).getD e 0)
theorem LnR_abL (hA : aOk A) {j r dd : Nat} {row rw' : Rw} (h : LnR A j row r rw' dd) : abL A j = rw'.1 ∧ rwL A j = row := by
  unfold abL rwL itR
  rw [(LnR_abv hA h).1, List.getD_eq_getElem?_getD, h.up, LnR_get h]
  exact ⟨rfl, rfl⟩
theorem c_needLine (h : CSr S A R c1 c2) (x : Int32) {n : Nat} (hn : n < 2 ^ 31) : F_X9_needLine S 0 x (nI n) = some (if (ixN x n).isSome = true then .inl S else .inr (nNSE, S)) := by
  unfold F_X9_needLine F_X9_needLine_9
  rw [x_oF h.1]
  rcases ixN_c x hn with ⟨j, hj, rfl, e⟩ | ⟨e, hx⟩
  · rw [e, if_neg (nI_pos (by omega)), if_pos (nI_lt hj (by omega))]; rfl
  · rw [e]
    by_cases c : x < 0
    · rw [if_pos c]; rfl
    · rw [if_neg c]
      rcases hx with z | z
      · exact absurd z c
      · rw [if_neg (Int32.not_lt.mpr z)]; rfl
theorem pth_len (hA : aOk A) {j : Nat} (hj : j + 1 < (linesT A).length) : (pthX A j).length ≤ 671 ∧ ∀ x, x ∈ pthX A j → x = 47 ∨ (97 ≤ x ∧ x ≤ 122) := by
  obtain ⟨row, r, rw', dd, hl, -⟩ := line_row hA hj
  have h60 := hl.d60
  have hwb := upW_bd hA dd j r row rw' hl
  have ed : pthX A j = txtW (aT A) (upW (linesT A) (dd + 1) (j + 1)) := by
    unfold pthX
    rw [(LnR_abv hA hl).2.2]
  rw [ed]
  have hbd := txt_bd hA (fun i hi => (hwb i hi).1)
  rw [upW_len] at hbd
  exact ⟨by omega, fun x hx => txt_ch hA (fun i hi => (hwb i hi).1) hx⟩
theorem c_line (h : CSr S A R c1 c2) (hA : aOk A) (x w : Int32) : cC S (eN2 nIAE) (F_X9_line S 0 x w) (stLine A x w) := by
  unfold F_X9_line stLine
  obtain ⟨S1, e1, h1, f1, L1⟩ := c_countLines h hA
  have hp := lines_pos A hA
  rw [x_oF h.1, e1, Option.bind_some]
  dsimp only
  rw [c_needLine h1 x (by omega), Option.bind_some]
  rcases ixN_c x (n := (linesT A).length - 1) (by omega) with ⟨j, hj, rfl, e⟩ | ⟨e, hx⟩
  · rw [e, if_pos (show (some j).isSome = true from rfl)]
    simp only [Sum.elim_inl]
    obtain ⟨row, r, rw', dd, hl, hit, hi0, hi61, hk12⟩ := line_row hA (show j + 1 < (linesT A).length by omega)
    obtain ⟨t, ht⟩ := cs_t h1
    have htr := cs_tr h1 ht
    have hrow := L1.2.2 _ _ hl.at_
    have hup := L1.2.2 _ _ hl.up
    have hle := hl.le
    have ok : ∀ v, cC S (eN2 nIAE) (some (.inl (v, S1))) (A, 0, v) := fun v => cC_ok f1 (cs_of h1)
    have hrl := LnR_abL hA hl
    unfold linV
    rw [hrl.1, hrl.2]
    by_cases w0 : w = 0
    · rw [if_pos w0, if_pos w0, (x_gs h1.1).2.2.2.2.2.2.1, Option.bind_some, c_itemOf L1 (by omega) hp.2, Option.bind_some]
      have : rwI (linesT A) j = nI row.1 := by unfold rwI; rw [LnR_get hl]
      rw [this]
      exact ok _
    rw [if_neg w0, if_neg w0]
    by_cases w1 : w = 1
    · rw [if_pos w1, if_pos w1, (x_gs h1.1).2.2.2.2.2.2.1, Option.bind_some, c_depthOf L1 hA hl, Option.bind_some, hl.dp]
      exact ok _
    rw [if_neg w1, if_neg w1]
    by_cases w2 : w = 2
    · unfold F_X5_itemAbove
      rw [if_pos w2, if_pos w2, (x_gs h1.1).2.2.2.2.2.2.1, Option.bind_some, s5_oF L1.1, s5_g0 L1.1, Option.bind_some, s5_g1 L1.1, Option.bind_some, nI_1, s5_r1 L1.1 (by omega), Option.bind_some, hrow.2.1, hl.ab, s5_r0 L1.1 (by omega), Option.bind_some, hup.1, Option.bind_some]
      exact ok _
    rw [if_neg w2, if_neg w2]
    by_cases w3 : w = 3
    · unfold F_X5_indexIn
      rw [if_pos w3, if_pos w3, (x_gs h1.1).2.2.2.2.2.2.1, Option.bind_some, s5_oF L1.1, s5_g2 L1.1, Option.bind_some, nI_1, s5_r2 L1.1 (by omega), Option.bind_some, hrow.2.2.1, Option.bind_some]
      exact ok _
    rw [if_neg w3, if_neg w3]
    by_cases w4 : w = 4
    · rw [if_pos w4, if_pos w4, (x_gs h1.1).2.2.2.2.2.2.1, Option.bind_some, x_g0 h1.1 ht, Option.bind_some, c_pathLen L1 hA htr (by omega), Option.bind_some]
      exact ok _
    rw [if_neg w4, if_neg w4]
    by_cases w5 : w = 5
    · have hl5 := hA.2.2.2.2.2.2.2.2.2.2.1
      obtain ⟨x, ex, hx⟩ := c_fitting htr hA.1.1 (cs_sk h1) h1.2.2.2.2.1 hl5 (fun q hq => hA.2.2.2.2.2.2.2.2.2.2.2.1 q hq)
      rw [if_pos w5, if_pos w5, (x_gs h1.1).2.2.2.2.1, Option.bind_some, x_g0 h1.1 ht, Option.bind_some, (x_gs h1.1).1, Option.bind_some, ex, Option.bind_some, (x_gs h1.1).2.2.2.2.2.2.1, Option.bind_some, c_itemOf L1 (by omega) hp.2, Option.bind_some]
      have : rwI (linesT A) j = nI row.1 := by unfold rwI; rw [LnR_get hl]
      rw [this, contains_eq _ _ (by omega), Option.bind_some, hx _ (by omega), hit, decide_eq_true hi0, Bool.true_and, Bool.true_and]
      cases fitB (aT A) (aCn A) row.1
      · rw [ite0 rfl]; exact ok _
      · rw [ite1 rfl]; exact ok _
    rw [if_neg w5, if_neg w5]
    exact cC_x f1 (cs_of h1) (by decide) rfl
  · rw [e, if_neg (by simp)]
    exact cC_x f1 (cs_of h1) (by decide) rfl
theorem c_path (h : CSr S A R c1 c2) (hA : aOk A) (x y : Int32) : cC S (eN2 nIOO) (F_X9_path S 0 x y) (stPath A x y) := by
  unfold F_X9_path stPath
  obtain ⟨S1, e1, h1, f1, L1⟩ := c_countLines h hA
  have hp := lines_pos A hA
  rw [x_oF h.1, e1, Option.bind_some]
  dsimp only
  rw [c_needLine h1 x (by omega), Option.bind_some]
  rcases ixN_c x (n := (linesT A).length - 1) (by omega) with ⟨j, hj, rfl, e⟩ | ⟨e, hx⟩
  · rw [e, if_pos (show (some j).isSome = true from rfl)]
    simp only [Sum.elim_inl]
    have hj1 : j + 1 < (linesT A).length := by omega
    obtain ⟨t, ht⟩ := cs_t h1
    have htr := cs_tr h1 ht
    obtain ⟨pl, pc⟩ := pth_len hA hj1
    rw [(x_gs h1.1).2.2.2.2.2.2.1, Option.bind_some, x_g0 h1.1 ht, Option.bind_some, c_pathLen L1 hA htr hj1, Option.bind_some, c_needIndex h1 y (by omega), Option.bind_some]
    rcases ixN_c y (n := (pthX A j).length - 1) (by omega) with ⟨k, hk, rfl, e2⟩ | ⟨e2, hy⟩
    · rw [e2, if_pos (show (some k).isSome = true from rfl)]
      simp only [Sum.elim_inl]
      rw [(x_gs h1.1).2.2.2.2.2.2.1, Option.bind_some, x_g0 h1.1 ht, Option.bind_some, c_pathSign L1 hA htr hj1 (by omega), Option.bind_some]
      have hm : (pthX A j).getD k 0 ∈ pthX A j := List.mem_of_getElem? (getD_some (l := pthX A j) (k := k) (by omega))
      rw [(ch_path (pc _ hm)).2, Option.bind_some]
      exact cC_ok f1 (cs_of h1)
    · rw [e2, if_neg (by simp)]
      exact cC_x f1 (cs_of h1) (by decide) rfl
  · rw [e, if_neg (by simp)]
    exact cC_x f1 (cs_of h1) (by decide) rfl
/-! the reference -/
theorem r_linesK (h : RS S m A) (hA : aOk A) : ∃ S', F_X10_lines S m = some S' ∧ RS S' m A ∧ MR S S' m [8, 9, 10, 11, 12, 13, 25, 26, 27, 28, 29, 30] [20, 41] ∧ LM S' m (linesT A) ∧ RK S' m (aT A) := by
  unfold F_X10_lines
  have hT := hA.1.1
  have hl5 := hA.2.2.2.2.2.2.2.2.2.2.1
  have hw := Nat.le_trans (way_le hT hA.1.2.1 _ (top_ok hA)) hA.1.2.2
  have htp := top_ok hA
  have ht61 := tOk_lt hT htp
  obtain ⟨S1, e1, m1, k1⟩ := r_knows h.1 hT
  have h1 := RS_fr h m1 (by decide) (by decide) (by decide)
  rw [s10_oF h.1.1, e1, Option.bind_some, r_mask h1 hA k1, Option.bind_some, s10_p41 h1.1.1, Option.bind_some]
  have q2 := s10_k41 h1.1.1 h1.1.1 0
  have v2 := s10_v41 h1.1.1 0
  have m2 := MR_F (MR_refl h1.1.1 [25, 26, 27, 28, 29, 30] [41]) (k := 41) (by decide) q2
  generalize wF S1 m 41 (.int 0) = S2 at *
  have h2 := RS_fr h1 m2 (by decide) (by decide) (by decide)
  have ew1 : oSI S2 (m + 29) .int (0 : Int32) (nI (topH (aHo A))) = some (wI S2 (m + 29) 0 (nI (topH (aHo A)))) := s10_w42 h2.1.1 (i := 0) (by decide) _
  rw [s10_g42 h2.1.1, Option.bind_some, r_top h2 hA, Option.bind_some, ew1, Option.bind_some]
  have v3 := s10_v42 h2.1.1 0 (nI (topH (aHo A)))
  have m3 := MR_I m2 (j := 29) (by decide) (by decide) (by decide) 0 (nI (topH (aHo A)))
  have o3 : ∀ q, q ≠ m + 29 → (wI S2 (m + 29) 0 (nI (topH (aHo A)))).2 q = S2.2 q := fun q hq => wI_ne _ _ _ hq
  generalize wI S2 (m + 29) 0 (nI (topH (aHo A))) = S3 at *
  have ew2 : oSI S3 (m + 30) .int (0 : Int32) 0 = some (wI S3 (m + 30) 0 0) := s10_w43 m3.1 (i := 0) (by decide) _
  rw [s10_g43 m3.1, Option.bind_some, ew2, Option.bind_some]
  have v4 := s10_v43 m3.1 0 0
  have m4 := MR_I m3 (j := 30) (by decide) (by decide) (by decide) 0 0
  have o4 : ∀ q, q ≠ m + 30 → (wI S3 (m + 30) 0 0).2 q = S3.2 q := fun q hq => wI_ne _ _ _ hq
  generalize wI S3 (m + 30) 0 0 = S4 at *
  have h4 := RS_fr h1 m4 (by decide) (by decide) (by decide)
  have L4 : LM S4 m [(topH (aHo A), -1000000, 0, -1)] := ⟨by rw [o4 m (by omega), o3 m (by omega), v2]; rfl, fun j row hj => by simp at hj⟩
  obtain ⟨S5, k, hk, run, L5, s5, nx5, -, m5⟩ := r_wk (fm := fmT (aT A) (aCn A)) (L := (aCn A).length) hT hl5 61 (topH (aHo A)) htp (rem_le hT _) 0 0 (-1) (-1000000) 0 [(topH (aHo A), -1000000, 0, -1)] S4 (by have := rem_le hT (topH (aHo A)); omega) h4.1 (RK_MR k1 m4 (by decide) (by decide)) h4.2.2.2.2.2.2.2.2.2.2.2.2.1 L4 rfl rfl (by rw [o4 _ (by omega), v3]; exact pu_at _ _ _) (by rw [v4]; exact pu_at _ _ _) (by show 1 + wayT (aT A) (topH (aHo A)) ≤ 301; omega)
  have h5 := RS_fr h4 m5 (by decide) (by decide) (by decide)
  have lv := r_leave hT h5.1 (show 0 < 62 by decide) htp s5 nx5 (fmT (aT A) (aCn A))
  have ex : F_X10_lines_70 m (fmT (aT A) (aCn A)) (nI 0 + (-1), S5) = some (.inr S5) := by
    unfold F_X10_lines_70
    dsimp only
    rw [if_pos (by decide)]
  have ei : iter (F_X10_lines_70 m (fmT (aT A) (aCn A))) fu ((0 : Int32), S4) = some S5 := Run_end (Run_t run (Run_1 lv)) (by omega) ex
  rw [ei, Option.bind_some]
  exact ⟨S5, rfl, h5, MR_trans (MR_sub m1 (by decide) (by decide)) (MR_trans (MR_sub m4 (by decide) (by decide)) (MR_sub m5 (by decide) (by decide))), L5, RK_MR (RK_MR k1 m4 (by decide) (by decide)) m5 (by decide) (by decide)⟩
theorem r_line (h : RS S m A) (hA : aOk A) (x w : Int32) : rC S m (F_X10_line S m x w) (stLine A x w) := by
  unfold F_X10_line stLine
  obtain ⟨S0, e0, h0, m0, t0⟩ := r_start h 0
  obtain ⟨S1, e1, h1, m1, L1, k1⟩ := r_linesK h0 hA
  have hp := lines_pos A hA
  have t1 : fI (S1.2 m) 0 = 0 := by rw [m1.2.2.2.2 0 (by decide)]; exact t0
  have b1 := Bk_trans (Bk_MR m0) (Bk_MR m1)
  rw [s10_oF h.1.1, e0, Option.bind_some, e1, Option.bind_some, s10_g41 h1.1.1, Option.bind_some, L1.1, in_ix _ _ (by omega), Option.bind_some]
  rcases ixN_c x (n := (linesT A).length - 1) (by omega) with ⟨j, hj, rfl, e⟩ | ⟨e, hx⟩
  · rw [e, ite5 (b := (some j).isSome) rfl]
    dsimp only
    obtain ⟨row, r, rw', dd, hl, hit, hi0, hi61, hk12⟩ := line_row hA (show j + 1 < (linesT A).length by omega)
    have hrow := L1.2 _ _ hl.at_
    have ok : ∀ v, rC S m (some (v, S1)) (A, 0, v) := fun v => ⟨_, _, rfl, h1, b1, t1, fun _ => rfl⟩
    have hrl := LnR_abL hA hl
    unfold linV
    rw [hrl.1, hrl.2]
    by_cases w0 : w = 0
    · rw [if_pos w0, if_pos w0, s10_g37 h1.1.1, Option.bind_some, s10_r37 h1.1.1 (by omega), Option.bind_some, hrow.1]
      exact ok _
    rw [if_neg w0, if_neg w0]
    by_cases w1 : w = 1
    · rw [if_pos w1, if_pos w1, s10_g38 h1.1.1, Option.bind_some, s10_r38 h1.1.1 (by omega), Option.bind_some, hrow.2.1]
      exact ok _
    rw [if_neg w1, if_neg w1]
    by_cases w2 : w = 2
    · obtain ⟨r3, rw3, a1, a2, a3, a4⟩ := hrow.2.2.2
      have e3 : r3 = r := (nI_eq (by omega) (by have := hl.le; omega)).mp (a1.symm.trans hl.ab)
      subst e3
      have e4 : rw3 = rw' := by have := hl.up; rw [a3] at this; exact Option.some.inj this
      subst e4
      rw [if_pos w2, if_pos w2, s10_g39 h1.1.1, Option.bind_some, s10_r39 h1.1.1 (by omega), Option.bind_some, a4]
      exact ok _
    rw [if_neg w2, if_neg w2]
    by_cases w3 : w = 3
    · rw [if_pos w3, if_pos w3, s10_g40 h1.1.1, Option.bind_some, s10_r40 h1.1.1 (by omega), Option.bind_some, hrow.2.2.1]
      exact ok _
    rw [if_neg w3, if_neg w3]
    by_cases w4 : w = 4
    · obtain ⟨S2, e2, h2, m2, -⟩ := r_writes h1 hA L1 (show j + 1 < (linesT A).length by omega)
      rw [if_pos w4, if_pos w4, e2, Option.bind_some]
      exact ⟨_, _, rfl, h2, Bk_trans b1 (Bk_MR m2), by rw [m2.2.2.2.2 0 (by simp)]; exact t1, fun _ => rfl⟩
    rw [if_neg w4, if_neg w4]
    by_cases w5 : w = 5
    · rw [if_pos w5, if_pos w5, s10_g37 h1.1.1, Option.bind_some, s10_r37 h1.1.1 (by omega), Option.bind_some, hrow.1, r_fits h1 hA k1 hit, Option.bind_some]
      cases fitB (aT A) (aCn A) row.1
      · rw [ite0 rfl]; exact ok _
      · rw [ite1 rfl]; exact ok _
    rw [if_neg w5, if_neg w5]
    exact rC_fail b1 h1 2 0 (by decide)
  · rw [e, ite4 (b := (none : Option Nat).isSome) rfl]
    exact rC_fail b1 h1 1 0 (by decide)
theorem r_path (h : RS S m A) (hA : aOk A) (x y : Int32) : rC S m (F_X10_path S m x y) (stPath A x y) := by
  unfold F_X10_path stPath
  obtain ⟨S1, e1, h1, m1, L1⟩ := r_lines h hA
  have hp := lines_pos A hA
  have fail : ∀ (S2 : pS), RS S2 m A → Bk S S2 m 41 → ∀ v : Int32, v = nI 1 ∨ v = nI 2 → rC S m (F_X10_path_43 S2 m y m v) (A, v, 0) := by
    intro S2 h2 b2 v hv
    unfold F_X10_path_43
    obtain ⟨S3, e3, h3, m3, t3⟩ := r_start h2 v
    rw [e3, Option.bind_some, s10_g0 h3.1.1, Option.bind_some, t3, if_neg (by rcases hv with z | z <;> rw [z] <;> decide)]
    have e0 : oC (0 : Int32) = some 0 := rfl
    rw [e0, Option.bind_some]
    exact ⟨_, _, rfl, h3, Bk_trans b2 (Bk_MR m3), t3, fun _ => rfl⟩
  rw [s10_oF h.1.1, e1, Option.bind_some, s10_g41 h1.1.1, Option.bind_some, L1.1, in_ix _ _ (by omega), Option.bind_some]
  rcases ixN_c x (n := (linesT A).length - 1) (by omega) with ⟨j, hj, rfl, e⟩ | ⟨e, hx⟩
  · rw [e, ite5 (b := (some j).isSome) rfl]
    dsimp only
    have hj1 : j + 1 < (linesT A).length := by omega
    obtain ⟨pl, pc⟩ := pth_len hA hj1
    obtain ⟨S2, e2, h2, m2, c2⟩ := r_writes h1 hA L1 hj1
    have b2 := Bk_trans (Bk_MR m1) (Bk_MR m2)
    rw [e2, Option.bind_some]
    dsimp only
    rw [in_ix _ _ (by omega), Option.bind_some]
    rcases ixN_c y (n := (pthX A j).length - 1) (by omega) with ⟨k, hk, rfl, e3⟩ | ⟨e3, hy⟩
    · rw [e3, ite5 (b := (some k).isSome) rfl]
      dsimp only
      unfold F_X10_path_43
      obtain ⟨S3, e4, h3, m3, t3⟩ := r_start h2 0
      have hg := getD_some (l := pthX A j) (k := k) (by omega)
      have hm : (pthX A j).getD k 0 ∈ pthX A j := List.mem_of_getElem? hg
      have hc := ch_path (pc _ hm)
      rw [e4, Option.bind_some, s10_g0 h3.1.1, Option.bind_some, t3, if_pos (Int32.le_refl _), s10_g45 h3.1.1, Option.bind_some, s10_r45 h3.1.1 (by omega), Option.bind_some, m3.2.2.2.1 32 (by simp) (by decide), c2 k _ (by omega) hg, hc.1, hc.2, Option.bind_some]
      exact ⟨_, _, rfl, h3, Bk_trans b2 (Bk_MR m3), t3, fun _ => rfl⟩
    · rw [e3, ite4 (b := (none : Option Nat).isSome) rfl]
      exact fail S2 h2 b2 2 (Or.inr rfl)
  · rw [e, ite4 (b := (none : Option Nat).isSome) rfl]
    exact fail S1 h1 (Bk_MR m1) 1 (Or.inl rfl)
end LIN
