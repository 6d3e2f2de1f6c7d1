/-! lines of the reference; outline, both sides -/
section OUT
variable {S : pS} {R : Nat → Option Nat} {c1 c2 t b m : Nat} {T : Tr} {L : List Cnd} {A : As}
def fitF (T : Tr) (L : List Cnd) (i : Nat) : Bool := tPres T i && decide (i ≠ 0) && fitB T L i
theorem r_mask (h : RS S m A) (hA : aOk A) (hk : RK S m (aT A)) : iter (F_X10_lines_8 m S) fu ((0 : Int64), (1 : Int32)) = some (fmT (aT A) (aCn A)) := by
  have hT := hA.1.1
  obtain ⟨r, e, hr⟩ := iter_fu (F := F_X10_lines_8 m S) (s := ((0 : Int64), (1 : Int32))) (fun k x => x.2 = nI (1 + k) ∧ ∀ j, j < 64 → lb x.1 j = (decide (j < 1 + k) && fitF (aT A) (aCn A) j)) (P := fun r => ∀ j, j < 64 → lb r j = (decide (j < 61) && fitF (aT A) (aCn A) j)) 60 (by omega) ⟨rfl, fun j hj => by
      show lb 0 j = _
      rw [lb_0]
      by_cases z : j = 0
      · unfold fitF; simp [z]
      · rw [decide_eq_false (show ¬ j < 1 + 0 by omega)]; rfl⟩
    (by
      rintro ⟨x, y⟩ ⟨hy, hs⟩
      have hy' : y = nI 61 := hy
      subst hy'
      unfold F_X10_lines_8
      rw [if_pos le61]
      exact ⟨_, rfl, hs⟩)
    (by
      rintro k ⟨x, y⟩ hk' ⟨hy, hs⟩
      have hy' : y = nI (1 + k) := hy
      subst hy'
      have hs' : ∀ j, j < 64 → lb x j = (decide (j < 1 + k) && fitF (aT A) (aCn A) j) := hs
      have off : fitF (aT A) (aCn A) (1 + k) = false → ∀ j, j < 64 → lb (x ||| 0) j = (decide (j < 1 + (k + 1)) && fitF (aT A) (aCn A) j) := fun hf j hj => by
        rw [lb_or, lb_0, Bool.or_false, hs' j hj]
        by_cases z : j = 1 + k
        · rw [z, hf, Bool.and_false, Bool.and_false]
        · have : decide (j < 1 + k) = decide (j < 1 + (k + 1)) := decide_eq_decide.mpr (by omega)
          rw [this]
      unfold F_X10_lines_8 F_X10_lines_37
      rw [if_neg (ge61 (show 1 + k < 61 by omega))]
      dsimp only
      rw [r_isItem_n h.1 (show 1 + k < 61 by omega), Option.bind_some]
      cases hp : tPres (aT A) (1 + k)
      · rw [ite0 rfl]
        exact ⟨_, rfl, nI_1 (1 + k), off (by unfold fitF; rw [hp]; rfl)⟩
      · rw [ite1 rfl, r_fits h hA hk hp, Option.bind_some]
        cases hf : fitB (aT A) (aCn A) (1 + k)
        · rw [ite0 rfl]
          exact ⟨_, rfl, nI_1 (1 + k), off (by unfold fitF; rw [hp, hf, Bool.and_false])⟩
        · rw [ite1 rfl]
          refine ⟨_, rfl, nI_1 (1 + k), fun j hj => ?_⟩
          show lb (x ||| bitL (1 + k)) j = _
          rw [lb_or, hs' j hj, lb_bitL (by omega) hj]
          by_cases z : j = 1 + k
          · have : fitF (aT A) (aCn A) (1 + k) = true := by unfold fitF; rw [hp, hf, decide_eq_true (show 1 + k ≠ 0 by omega)]; rfl
            rw [z, this]; simp
          · have : decide (j < 1 + k) = decide (j < 1 + (k + 1)) := decide_eq_decide.mpr (by omega)
            rw [this, decide_eq_false z, Bool.or_false])
  rw [e]
  refine congrArg some (lb_ext (fun i hi => ?_))
  rw [hr i hi]
  unfold fmT
  rw [lb_bitsB _ hi]; rfl
theorem r_lines (h : RS S m A) (hA : aOk A) : ∃ S', F_X10_lines S m = some S' ∧ RS S' m A ∧ MR S S' m [8, 9, 10, 11, 12, 13, 25, 26, 27, 28, 29, 30] [20, 41] ∧ LM S' m (linesT A) := by
  unfold F_X10_lines
  have hT := hA.1.1
  have hl5 := hA.2.2.2.2.2.2.2.2.2.2.1
  have hw := Nat.le_trans (way_le hT hA.1.2.1 _ (top_ok hA)) hA.1.2.2
  have htp := top_ok hA
  have ht61 := tOk_lt hT htp
  obtain ⟨S1, e1, m1, k1⟩ := r_knows h.1 hT
  have h1 := RS_fr h m1 (by decide) (by decide) (by decide)
  rw [s10_oF h.1.1, e1, Option.bind_some, r_mask h1 hA k1, Option.bind_some, s10_p41 h1.1.1, Option.bind_some]
  have q2 := s10_k41 h1.1.1 h1.1.1 0
  have v2 := s10_v41 h1.1.1 0
  have m2 := MR_F (MR_refl h1.1.1 [25, 26, 27, 28, 29, 30] [41]) (k := 41) (by decide) q2
  generalize wF S1 m 41 (.int 0) = S2 at *
  have h2 := RS_fr h1 m2 (by decide) (by decide) (by decide)
  have ew1 : oSI S2 (m + 29) .int (0 : Int32) (nI (topH (aHo A))) = some (wI S2 (m + 29) 0 (nI (topH (aHo A)))) := s10_w42 h2.1.1 (i := 0) (by decide) _
  rw [s10_g42 h2.1.1, Option.bind_some, r_top h2 hA, Option.bind_some, ew1, Option.bind_some]
  have v3 := s10_v42 h2.1.1 0 (nI (topH (aHo A)))
  have m3 := MR_I m2 (j := 29) (by decide) (by decide) (by decide) 0 (nI (topH (aHo A)))
  have o3 : ∀ q, q ≠ m + 29 → (wI S2 (m + 29) 0 (nI (topH (aHo A)))).2 q = S2.2 q := fun q hq => wI_ne _ _ _ hq
  generalize wI S2 (m + 29) 0 (nI (topH (aHo A))) = S3 at *
  have ew2 : oSI S3 (m + 30) .int (0 : Int32) 0 = some (wI S3 (m + 30) 0 0) := s10_w43 m3.1 (i := 0) (by decide) _
  rw [s10_g43 m3.1, Option.bind_some, ew2, Option.bind_some]
  have v4 := s10_v43 m3.1 0 0
  have m4 := MR_I m3 (j := 30) (by decide) (by decide) (by decide) 0 0
  have o4 : ∀ q, q ≠ m + 30 → (wI S3 (m + 30) 0 0).2 q = S3.2 q := fun q hq => wI_ne _ _ _ hq
  generalize wI S3 (m + 30) 0 0 = S4 at *
  have h4 := RS_fr h1 m4 (by decide) (by decide) (by decide)
  have L4 : LM S4 m [(topH (aHo A), -1000000, 0, -1)] := ⟨by rw [o4 m (by omega), o3 m (by omega), v2]; rfl, fun j row hj => by simp at hj⟩
  obtain ⟨S5, k, hk, run, L5, s5, nx5, -, m5⟩ := r_wk (fm := fmT (aT A) (aCn A)) (L := (aCn A).length) hT hl5 61 (topH (aHo A)) htp (rem_le hT _) 0 0 (-1) (-1000000) 0 [(topH (aHo A), -1000000, 0, -1)] S4 (by have := rem_le hT (topH (aHo A)); omega) h4.1 (RK_MR k1 m4 (by decide) (by decide)) h4.2.2.2.2.2.2.2.2.2.2.2.2.1 L4 rfl rfl (by rw [o4 _ (by omega), v3]; exact pu_at _ _ _) (by rw [v4]; exact pu_at _ _ _) (by show 1 + wayT (aT A) (topH (aHo A)) ≤ 301; omega)
  have h5 := RS_fr h4 m5 (by decide) (by decide) (by decide)
  have lv := r_leave hT h5.1 (show 0 < 62 by decide) htp s5 nx5 (fmT (aT A) (aCn A))
  have ex : F_X10_lines_70 m (fmT (aT A) (aCn A)) (nI 0 + (-1), S5) = some (.inr S5) := by
    unfold F_X10_lines_70
    dsimp only
    rw [if_pos (by decide)]
  have ei : iter (F_X10_lines_70 m (fmT (aT A) (aCn A))) fu ((0 : Int32), S4) = some S5 := Run_end (Run_t run (Run_1 lv)) (by omega) ex
  rw [ei, Option.bind_some]
  exact ⟨S5, rfl, h5, MR_trans (MR_sub m1 (by decide) (by decide)) (MR_trans (MR_sub m4 (by decide) (by decide)) (MR_sub m5 (by decide) (by decide))), L5⟩
theorem r_fitting (h : RS S m A) (hA : aOk A) (hk : RK S m (aT A)) : F_X10_fitting S m = some (nI (cntB (fitF (aT A) (aCn A)))) := by
  unfold F_X10_fitting
  have hT := hA.1.1
  obtain ⟨r, e, hr⟩ := iter_fu (F := F_X10_fitting_4 m S) (s := ((0 : Int32), (1 : Int32))) (fun k x => x = (nI (cntR (fitF (aT A) (aCn A)) (1 + k)), nI (1 + k))) (P := fun r => r = nI (cntR (fitF (aT A) (aCn A)) 61)) 60 (by omega) (by
      have : cntR (fitF (aT A) (aCn A)) (1 + 0) = 0 := by
        rw [show 1 + 0 = 0 + 1 from rfl, cntR_s]
        have : fitF (aT A) (aCn A) 0 = false := by unfold fitF; simp
        rw [this]; rfl
      rw [this]; rfl)
    (by
      rintro x rfl
      unfold F_X10_fitting_4
      rw [if_pos le61]
      exact ⟨_, rfl, rfl⟩)
    (by
      rintro k x hk' rfl
      have es : cntR (fitF (aT A) (aCn A)) (1 + (k + 1)) = cntR (fitF (aT A) (aCn A)) (1 + k) + if fitF (aT A) (aCn A) (1 + k) = true then 1 else 0 := cntR_s _ (1 + k)
      unfold F_X10_fitting_4 F_X10_fitting_31
      rw [if_neg (ge61 (show 1 + k < 61 by omega))]
      dsimp only
      rw [r_isItem_n h.1 (show 1 + k < 61 by omega), Option.bind_some, es]
      cases hp : tPres (aT A) (1 + k)
      · have : fitF (aT A) (aCn A) (1 + k) = false := by unfold fitF; rw [hp]; rfl
        rw [ite0 rfl, li_0, nI_add, nI_1, this]
        exact ⟨_, rfl, rfl⟩
      · rw [ite1 rfl, r_fits h hA hk hp, Option.bind_some]
        cases hf : fitB (aT A) (aCn A) (1 + k)
        · have : fitF (aT A) (aCn A) (1 + k) = false := by unfold fitF; rw [hf, Bool.and_false]
          rw [ite0 rfl, li_0, nI_add, nI_1, this]
          exact ⟨_, rfl, rfl⟩
        · have : fitF (aT A) (aCn A) (1 + k) = true := by unfold fitF; rw [hp, hf, decide_eq_true (show 1 + k ≠ 0 by omega)]; rfl
          rw [ite1 rfl, nI_1, nI_1, this]
          exact ⟨_, rfl, rfl⟩)
  rw [s10_oF h.1.1, e, Option.bind_some, hr]; rfl
end OUT
