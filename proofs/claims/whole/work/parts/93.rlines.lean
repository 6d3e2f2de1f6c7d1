/-! lines: the reference walks -/
section RLN
variable {S : pS} {m : Nat} {T : Tr} {sh op : Nat → Bool}
theorem RK_MR {S S1 : pS} {L ks : List Nat} (h : RK S m T) (hM : MR S S1 m L ks) (hL : ∀ j, j ∈ L → j ≠ 8 ∧ j ≠ 10 ∧ j ≠ 11 ∧ j ≠ 12 ∧ j ≠ 13) (hk : 20 ∉ ks) : RK S1 m T := by
  obtain ⟨h1, h2, h3⟩ := h
  have a : ∀ j, (j = 8 ∨ j = 10 ∨ j = 11 ∨ j = 12 ∨ j = 13) → S1.2 (m + j) = S.2 (m + j) := fun j hj => hM.2.2.2.1 j (fun z => by have := hL j z; omega) (by omega)
  unfold RK
  rw [hM.2.2.2.2 20 hk, a 8 (by omega), a 10 (by omega), a 11 (by omega), a 12 (by omega), a 13 (by omega)]
  exact ⟨h1, h2, h3⟩
theorem LM_MR {S S1 : pS} {L ks : List Nat} {acc : List Rw} (h : LM S m acc) (hM : MR S S1 m L ks) (hL : ∀ j, j ∈ L → j ≠ 25 ∧ j ≠ 26 ∧ j ≠ 27 ∧ j ≠ 28) (hk : 41 ∉ ks) : LM S1 m acc := by
  have a : ∀ j, (j = 25 ∨ j = 26 ∨ j = 27 ∨ j = 28) → S1.2 (m + j) = S.2 (m + j) := fun j hj => hM.2.2.2.1 j (fun z => by have := hL j z; omega) (by omega)
  unfold LM
  rw [hM.2.2.2.2 41 hk, a 25 (by omega), a 26 (by omega), a 27 (by omega), a 28 (by omega)]
  exact h
theorem r_231 (h : Sh S m sp10) {d c : Nat} (hd : d + 1 < 62) (l1 : Int64) : ∃ S1, F_X10_lines_231 m l1 S (nI d) (nI c) = some (.inl (nI (d + 1), S1)) ∧ MR S S1 m [29, 30] [] ∧ cI (S1.2 (m + 29)) = pu (cI (S.2 (m + 29))) (d + 1) (nI c) ∧ cI (S1.2 (m + 30)) = pu (cI (S.2 (m + 30))) (d + 1) 0 := by
  unfold F_X10_lines_231
  rw [s10_g42 h, Option.bind_some, nI_1, s10_w42 h hd, Option.bind_some]
  have m1 := MR_I (MR_refl h [29, 30] []) (j := 29) (by decide) (by decide) (by decide) (d + 1) (nI c)
  have v1 := s10_v42 h (d + 1) (nI c)
  have o1 : ∀ q, q ≠ m + 29 → (wI S (m + 29) (d + 1) (nI c)).2 q = S.2 q := fun q hq => wI_ne _ _ _ hq
  generalize wI S (m + 29) (d + 1) (nI c) = S1 at *
  rw [s10_g43 m1.1, Option.bind_some, s10_w43 m1.1 hd, Option.bind_some]
  have m2 := MR_I m1 (j := 30) (by decide) (by decide) (by decide) (d + 1) 0
  have v2 := s10_v43 m1.1 (d + 1) 0
  have o2 : ∀ q, q ≠ m + 30 → (wI S1 (m + 30) (d + 1) 0).2 q = S1.2 q := fun q hq => wI_ne _ _ _ hq
  generalize wI S1 (m + 30) (d + 1) 0 = S2 at *
  exact ⟨S2, rfl, m2, by rw [o2 _ (by omega)]; exact v1, by rw [v2, o1 _ (by omega)]⟩
theorem r_leave (hT : tOk T) (h : RR S m T) {d p : Nat} (hd : d < 62) (hp : tPres T p = true) (hs : cI (S.2 (m + 29)) d = nI p) (hn : cI (S.2 (m + 30)) d = nI (tKids T p).length) (fm : Int64) : F_X10_lines_70 m fm (nI d, S) = some (.inl (nI d + (-1), S)) := by
  have hp61 := tOk_lt hT hp
  unfold F_X10_lines_70
  dsimp only
  rw [if_neg (nI_pos (by omega)), s10_g42 h.1, Option.bind_some, s10_r42 h.1 hd, Option.bind_some, hs, s10_g43 h.1, Option.bind_some, s10_r43 h.1 hd, Option.bind_some, hn, s10_g1 h.1, Option.bind_some, li_916, nI_add, s10_r1 h.1 (by omega), Option.bind_some, r_many h hp, if_neg (fun z => z rfl)]
def shR (T : Tr) (L : Nat) (fm : Int64) (c : Nat) : Bool := decide (L = 0) || decide (¬ ((belT T c ||| bitL c) &&& fm) = 0)
def opR (T : Tr) (L : Nat) (c : Nat) : Bool := decide (0 < L) || !tFold T c
theorem r_wk {fm : Int64} {L : Nat} (hT : tOk T) (hL5 : L ≤ 5) : ∀ (n p : Nat), tPres T p = true → remT T p ≤ n → ∀ (d r : Nat) (dr ab : Int32) (ix : Nat) (acc : List Rw) (S : pS), d + remT T p ≤ 61 → RR S m T → RK S m T → fI (S.2 m) 30 = nI L → LM S m acc → acc[r]? = some (p, ab, ix, dr) → dr + 1 = nI d → cI (S.2 (m + 29)) d = nI p → cI (S.2 (m + 30)) d = 0 → acc.length + wayT T p ≤ 301 →
    ∃ S' k, k ≤ 2 * wayT T p ∧ Run (F_X10_lines_70 m fm) (nI d, S) (nI d, S') k ∧ LM S' m (wlk T (shR T L fm) (opR T L) n p (dr + 1) r acc) ∧ cI (S'.2 (m + 29)) d = nI p ∧ cI (S'.2 (m + 30)) d = nI (tKids T p).length ∧ (∀ j, j < d → cI (S'.2 (m + 29)) j = cI (S.2 (m + 29)) j ∧ cI (S'.2 (m + 30)) j = cI (S.2 (m + 30)) j) ∧ MR S S' m [25, 26, 27, 28, 29, 30] [41] := by
  intro n
  induction n with
  | zero => intro p hp hn; have := rem_pos hT hp; omega
  | succ n ih =>
    intro p hp hn d r dr ab ix acc S hd hR hK h30 hLM hr hdr hst h0 hlen
    have hp61 := tOk_lt hT hp
    have h12 := (hT.2.2.2.1 p hp).1
    have hrp := rem_pos hT hp
    have key : ∀ k, k ≤ (tKids T p).length → ∃ S' u, u ≤ 2 * ksum T p k ∧ Run (F_X10_lines_70 m fm) (nI d, S) (nI d, S') u ∧ LM S' m (wlj T (shR T L fm) (opR T L) n p (dr + 1) r acc k) ∧ cI (S'.2 (m + 29)) d = nI p ∧ cI (S'.2 (m + 30)) d = nI k ∧ (∀ j, j < d → cI (S'.2 (m + 29)) j = cI (S.2 (m + 29)) j ∧ cI (S'.2 (m + 30)) j = cI (S.2 (m + 30)) j) ∧ MR S S' m [25, 26, 27, 28, 29, 30] [41] := by
      intro k
      induction k with
      | zero => intro _; exact ⟨S, 0, Nat.zero_le _, Run_0, hLM, hst, h0, fun _ _ => ⟨rfl, rfl⟩, MR_refl hR.1 _ _⟩
      | succ k ihk =>
        intro hk
        obtain ⟨S1, u, hu, run1, L1, s1, nx1, fr1, m1⟩ := ihk (by omega)
        obtain ⟨pre1, len1⟩ := wlj_len hT (shR T L fm) (opR T L) (n := n) hp (dr + 1) r acc k (by omega)
        have e1 : (tKids T p)[k]? = some (tKids T p)[k] := List.getElem?_eq_getElem (by omega)
        have hcm := List.getElem_mem (show k < (tKids T p).length by omega)
        generalize (tKids T p)[k] = c at *
        have hc := tOk_kid hT hp hcm
        have hrem := rem_kid hT hp hcm
        have hrc := rem_pos hT hc.1
        have hks := ksum_s e1
        have hkl : ksum T p (k + 1) ≤ wayT T p := ksum_le hT hp
        have hr1 := pre_get pre1 hr
        have ew := wlj_s T (shR T L fm) (opR T L) n p (dr + 1) r acc k
        unfold wst at ew
        rw [getD_of e1] at ew
        rw [ew]
        clear ew
        generalize wlj T (shR T L fm) (opR T L) n p (dr + 1) r acc k = acc2 at *
        have R1 : RR S1 m T := MR_RR m1 (by decide) hR
        -- the step
        have k5 := MR_I (MR_refl R1.1 [25, 26, 27, 28, 29, 30] [41]) (j := 30) (by decide) (by decide) (by decide) d (nI (k + 1))
        have v5 := s10_v43 R1.1 d (nI (k + 1))
        have o5 : ∀ q, q ≠ m + 30 → (wI S1 (m + 30) d (nI (k + 1))).2 q = S1.2 q := fun q hq => wI_ne _ _ _ hq
        have w5 := s10_w43 R1.1 (show d < 62 by omega) (nI (k + 1))
        have hstep : F_X10_lines_70 m fm (nI d, S1) = (F_X10_child (wI S1 (m + 30) d (nI (k + 1))) m (nI p) (nI k)).bind fun q39 => (oGI (wI S1 (m + 30) d (nI (k + 1))) m 10 30).bind fun x41 => if x41 ≤ 0 then (F_X10_lines_161 m fm (wI S1 (m + 30) d (nI (k + 1))) (nI d) (nI p) (nI k) q39) else ((oGA (wI S1 (m + 30) d (nI (k + 1))) m 10 19).bind fun x83 => (oAJ (wI S1 (m + 30) d (nI (k + 1))) x83 .long q39).bind fun x85 => if ¬ (lg_cmp ((x85 ||| ((1 : Int64) <<< (q39.toInt64 &&& 63))) &&& fm) (0 : Int64)) = 0 then (F_X10_lines_161 m fm (wI S1 (m + 30) d (nI (k + 1))) (nI d) (nI p) (nI k) q39) else (some (.inl (nI d, wI S1 (m + 30) d (nI (k + 1)))))) := by
          unfold F_X10_lines_70
          dsimp only
          rw [if_neg (nI_pos (by omega)), s10_g42 R1.1, Option.bind_some, s10_r42 R1.1 (by omega), Option.bind_some, s1, s10_g43 R1.1, Option.bind_some, s10_r43 R1.1 (by omega), Option.bind_some, nx1, s10_g1 R1.1, Option.bind_some, li_916, nI_add, s10_r1 R1.1 (by omega), Option.bind_some, r_many R1 hp, if_pos (fun z => by have := (nI_eq (by omega) (by omega)).mp z; omega), Option.bind_some, s10_r43 R1.1 (by omega), Option.bind_some, nx1, nI_1, w5, Option.bind_some]
        generalize wI S1 (m + 30) d (nI (k + 1)) = S5 at *
        have R5 : RR S5 m T := MR_RR k5 (by decide) R1
        have m5 := MR_trans m1 k5
        have K5 : RK S5 m T := RK_MR hK m5 (by decide) (by decide)
        have c5 : fI (S5.2 m) 30 = nI L := by rw [m5.2.2.2.2 30 (by decide)]; exact h30
        have L5 : LM S5 m acc2 := by
          unfold LM
          rw [o5 m (by omega), o5 (m + 25) (by omega), o5 (m + 26) (by omega), o5 (m + 27) (by omega), o5 (m + 28) (by omega)]
          exact L1
        have s5 : cI (S5.2 (m + 29)) = cI (S1.2 (m + 29)) := by rw [o5 _ (by omega)]
        have nx5 : cI (S5.2 (m + 30)) d = nI (k + 1) := by rw [v5]; exact pu_at _ _ _
        have nxo5 : ∀ j, j < d → cI (S5.2 (m + 30)) j = cI (S1.2 (m + 30)) j := fun j hj => by rw [v5]; exact pu_ne _ _ _ (by omega)
        rw [r_child R5 hp61 (by omega) hp e1, Option.bind_some, s10_g30 R5.1, Option.bind_some, c5] at hstep
        have hstep2 : F_X10_lines_70 m fm (nI d, S1) = if shR T L fm c = true then F_X10_lines_161 m fm S5 (nI d) (nI p) (nI k) (nI c) else some (.inl (nI d, S5)) := by
          rw [hstep]
          unfold shR
          by_cases z : L = 0
          · rw [if_pos (by rw [z]; exact Int32.le_refl _), if_pos (by rw [decide_eq_true z]; rfl)]
          · rw [if_neg (fun w => by
              have : nI L ≤ nI 0 := w
              have := (nI_leI (by omega) (by omega)).mp this
              omega), s10_g19 R5.1, Option.bind_some, s10_r19 R5.1 hc.2.2.2, Option.bind_some, (K5.2.2 c hc.2.2.2).2.2.2, decide_eq_false z, Bool.false_or]
            show (if ¬ lg_cmp ((belT T c ||| bitL c) &&& fm) 0 = 0 then _ else _) = _
            by_cases y : ((belT T c ||| bitL c) &&& fm) = 0
            · rw [if_neg (fun w => w ((lg_cmp0 _ _).mpr y)), if_neg (by rw [decide_eq_false (fun w => w y)]; decide)]
            · rw [if_pos (fun w => y ((lg_cmp0 _ _).mp w)), if_pos (decide_eq_true y)]
        clear hstep
        by_cases qs : shR T L fm c = true
        · rw [if_pos qs]
          rw [if_pos qs] at hstep2
          obtain ⟨S6, m6, L6, e6⟩ := r_161 (d := d) (k := k) (c := c) R5.1 L5 hr1 (by omega) fm
          rw [← hdr] at L6
          rw [e6, s10_g30 m6.1, Option.bind_some, m6.2.2.2.2 30 (by decide), c5] at hstep2
          have R6 := MR_RR m6 (by decide) R5
          have m56 : MR S S6 m [25, 26, 27, 28, 29, 30] [41] := MR_trans m5 (MR_sub m6 (by decide) (by decide))
          have s6 : cI (S6.2 (m + 29)) = cI (S1.2 (m + 29)) := by rw [m6.2.2.2.1 29 (by decide) (by decide)]; exact s5
          have nx6 : S6.2 (m + 30) = S5.2 (m + 30) := m6.2.2.2.1 30 (by decide) (by decide)
          have l6 : (acc2 ++ [(c, nI r, k, dr + 1)]).length = acc2.length + 1 := by rw [List.length_append]; rfl
          have hrN : (acc2 ++ [(c, nI r, k, dr + 1)])[acc2.length]? = some (c, nI r, k, dr + 1) := by
            rw [List.getElem?_append_right (Nat.le_refl _), Nat.sub_self]; rfl
          have hstep3 : F_X10_lines_70 m fm (nI d, S1) = if opR T L c = true then F_X10_lines_231 m fm S6 (nI d) (nI c) else some (.inl (nI d, S6)) := by
            rw [hstep2]
            unfold opR
            by_cases z : 0 < L
            · rw [if_pos (show (0 : Int32) < nI L from nI_lt (a := 0) z (by omega)), if_pos (by rw [decide_eq_true z]; rfl)]
            · rw [if_neg (show ¬ (0 : Int32) < nI L from fun w => z ((nI_ltI (a := 0) (b := L) (by decide) (by omega)).mp w)), decide_eq_false z, Bool.false_or, r_has1 R6 hc.2.2.2 hc.1, Option.bind_some]
              cases tFold T c
              · rw [ite4 rfl]; rfl
              · rw [ite5 rfl]; rfl
          by_cases qo : opR T L c = true
          · rw [if_pos qo]
            rw [if_pos qo] at hstep3
            obtain ⟨S7, e7, m7, st7, nx7⟩ := r_231 (c := c) m6.1 (show d + 1 < 62 by omega) fm
            rw [e7] at hstep3
            have m67 := MR_trans m56 (MR_sub m7 (by decide) (by decide))
            obtain ⟨S8, v, hv, run8, L8, s8, nx8, fr8, m8⟩ := ih c hc.1 (by omega) (d + 1) acc2.length (dr + 1) (nI r) k (acc2 ++ [(c, nI r, k, dr + 1)]) S7 (by omega) (MR_RR m7 (by decide) R6) (RK_MR hK m67 (by decide) (by decide)) (by rw [m67.2.2.2.2 30 (by decide)]; exact h30) (LM_MR L6 m7 (by decide) (by decide)) hrN (by rw [hdr, nI_1]) (by rw [st7]; exact pu_at _ _ _) (by rw [nx7]; exact pu_at _ _ _) (by omega)
            have lv := r_leave hT (MR_RR m8 (by decide) (MR_RR m7 (by decide) R6)) (show d + 1 < 62 by omega) hc.1 s8 nx8 fm
            rw [show nI (d + 1) + (-1 : Int32) = nI d from by rw [← Int32.sub_eq_add_neg, nI_pred]] at lv
            refine ⟨S8, u + 1 + v + 1, by omega, Run_t (Run_t (Run_t run1 (Run_1 hstep3)) run8) (Run_1 lv), L8, ?_, ?_, fun j hj => ?_, MR_trans m67 m8⟩
            · rw [(fr8 d (by omega)).1, st7, pu_ne _ _ _ (by omega), s6, s1]
            · rw [(fr8 d (by omega)).2, nx7, pu_ne _ _ _ (by omega), nx6, nx5]
            · rw [(fr8 j (by omega)).1, (fr8 j (by omega)).2, st7, nx7, pu_ne _ _ _ (by omega), pu_ne _ _ _ (by omega), s6, nx6, nxo5 j hj]
              exact fr1 j hj
          · rw [if_neg qo]
            rw [if_neg qo] at hstep3
            refine ⟨S6, u + 1, by omega, Run_t run1 (Run_1 hstep3), L6, by rw [s6, s1], by rw [nx6, nx5], fun j hj => ?_, m56⟩
            rw [s6, nx6, nxo5 j hj]
            exact fr1 j hj
        · rw [if_neg qs]
          rw [if_neg qs] at hstep2
          refine ⟨S5, u + 1, by omega, Run_t run1 (Run_1 hstep2), L5, by rw [s5, s1], nx5, fun j hj => ?_, m5⟩
          rw [s5, nxo5 j hj]
          exact fr1 j hj
    obtain ⟨S', u, h1, h2, h3, h4, h5, h6, h7⟩ := key _ (Nat.le_refl _)
    rw [ksum_e hT hp] at h1
    exact ⟨S', u, h1, h2, h3, h4, h5, h6, h7⟩
end RLN
