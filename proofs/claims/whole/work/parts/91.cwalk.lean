/-! lines: the class walks -/
theorem pre_get {α : Type} {l l2 : List α} {r : Nat} {x : α} (h : l <+: l2) (e : l[r]? = some x) : l2[r]? = some x := by
  obtain ⟨s, rfl⟩ := h
  rw [List.getElem?_append_left (List.getElem?_eq_some_iff.mp e).1, e]
section CWL
variable {S : pS} {b t : Nat} {T : Tr} {l3 q7 : Int64} {sh op : Nat → Bool}
theorem c_leave {acc : List Rw} {r p ix st : Nat} {ab dr : Int32} (hT : tOk T) (h : LR S b acc) (ht : TR S t T) (hr : acc[r]? = some (p, ab, ix, dr)) (hl : acc.length ≤ 301) (hp : tPres T p = true) (hst : st < 602) (hq : lb q7 p = false ∨ cI (S.2 (b + 5)) r = nI (tKids T p).length) : F_X5_find_29 b t l3 q7 (nI r, nI st, S) = some (.inl (ab, nI (st + 1), S)) := by
  have hr2 := (List.getElem?_eq_some_iff.mp hr).1
  have hrow := h.2.2 r _ hr
  have hp61 := tOk_lt hT hp
  have h12 := (hT.2.2.2.1 p hp).1
  have e151 : F_X5_find_151 b t l3 q7 S (nI r) (nI st) = some (.inl (ab, nI (st + 1), S)) := by
    unfold F_X5_find_151
    rw [s5_g1 h.1, Option.bind_some, s5_r1 h.1 (by omega), Option.bind_some, hrow.2.1, nI_1]
  unfold F_X5_find_29
  dsimp only
  rw [if_neg (show ¬ (602 : Int32) ≤ nI st from nI_ge (b := 602) hst (by decide)), if_neg (nI_pos (by omega)), s5_g0 h.1, Option.bind_some, s5_r0 h.1 (by omega), Option.bind_some, hrow.1, s5_g4 h.1, Option.bind_some, s5_r4 h.1 (by omega), Option.bind_some, contains_eq _ _ (by omega), Option.bind_some]
  cases eq : lb q7 p
  · rw [ite0 rfl]; exact e151
  · rw [ite1 rfl, c_count ht hp61 hp, Option.bind_some]
    rcases hq with z | z
    · rw [eq] at z; cases z
    · rw [z, if_pos (nI_le (Nat.le_refl _) (by omega))]; exact e151
theorem c_wk {H : Nat} (hT : tOk T) (hbt : t + 7 ≤ b ∨ b + 6 ≤ t) (hsh : ∀ c, tPres T c = true → lb l3 c = sh c) (hop : ∀ c, tPres T c = true → remT T c < H → lb q7 c = op c) : ∀ (n p : Nat), tPres T p = true → remT T p ≤ n → remT T p ≤ H → lb q7 p = true → ∀ (r : Nat) (dr ab : Int32) (ix : Nat) (acc : List Rw) (S : pS) (st : Nat), LR S b acc → TR S t T → acc[r]? = some (p, ab, ix, dr) → cI (S.2 (b + 5)) r = 0 → acc.length + wayT T p ≤ 301 → st + 2 * wayT T p ≤ 601 →
    ∃ S' k, k ≤ 2 * wayT T p ∧ Run (F_X5_find_29 b t l3 q7) (nI r, nI st, S) (nI r, nI (st + k), S') k ∧ LR S' b (wlk T sh op n p (dr + 1) r acc) ∧ TR S' t T ∧ cI (S'.2 (b + 5)) r = nI (tKids T p).length ∧ (∀ j, j < acc.length → j ≠ r → cI (S'.2 (b + 5)) j = cI (S.2 (b + 5)) j) ∧ Bk S S' b 6 := by
  intro n
  induction n with
  | zero => intro p hp hn; have := rem_pos hT hp; omega
  | succ n ih =>
    intro p hp hn hH hq r dr ab ix acc S st hL ht hr h0 hlen hst
    have hp61 := tOk_lt hT hp
    have h12 := (hT.2.2.2.1 p hp).1
    have hr2 := (List.getElem?_eq_some_iff.mp hr).1
    have key : ∀ k, k ≤ (tKids T p).length → ∃ S' u, u ≤ 2 * ksum T p k ∧ Run (F_X5_find_29 b t l3 q7) (nI r, nI st, S) (nI r, nI (st + u), S') u ∧ LR S' b (wlj T sh op n p (dr + 1) r acc k) ∧ TR S' t T ∧ cI (S'.2 (b + 5)) r = nI k ∧ (∀ j, j < acc.length → j ≠ r → cI (S'.2 (b + 5)) j = cI (S.2 (b + 5)) j) ∧ Bk S S' b 6 := by
      intro k
      induction k with
      | zero => intro _; exact ⟨S, 0, Nat.zero_le _, Run_0, hL, ht, h0, fun _ _ _ => rfl, Bk_refl _ _ _⟩
      | succ k ihk =>
        intro hk
        obtain ⟨S1, u, hu, run1, L1, t1, nx1, fr1, b1⟩ := ihk (by omega)
        obtain ⟨pre1, len1⟩ := wlj_len hT sh op (n := n) hp (dr + 1) r acc k (by omega)
        have e1 : (tKids T p)[k]? = some (tKids T p)[k] := List.getElem?_eq_getElem (by omega)
        have hcm := List.getElem_mem (show k < (tKids T p).length by omega)
        generalize (tKids T p)[k] = c at *
        have hc := tOk_kid hT hp hcm
        have hrem := rem_kid hT hp hcm
        have hks := ksum_s e1
        have hkl : ksum T p (k + 1) ≤ wayT T p := ksum_le hT hp
        have hr1 : (wlj T sh op n p (dr + 1) r acc k)[r]? = some (p, ab, ix, dr) := by
          exact pre_get pre1 hr
        have ew := wlj_s T sh op n p (dr + 1) r acc k
        unfold wst at ew
        rw [getD_of e1] at ew
        rw [ew]
        clear ew
        have hal := pre1.length_le
        generalize wlj T sh op n p (dr + 1) r acc k = acc2 at *
        have hrow := L1.2.2 r _ hr1
        -- the step
        have w0 := s5_w4 L1.1 (i := r) (by omega) (nI (k + 1))
        have k5 := sh_wI L1.1 (b + 5) r (nI (k + 1))
        have v5 := s5_v4 L1.1 r (nI (k + 1))
        have n5 : (wI S1 (b + 5) r (nI (k + 1))).1 = S1.1 := rfl
        have o5 : ∀ q, q ≠ b + 5 → (wI S1 (b + 5) r (nI (k + 1))).2 q = S1.2 q := fun q hq => wI_ne _ _ _ hq
        have hstep : F_X5_find_29 b t l3 q7 (nI r, nI (st + u), S1) = (F_X8_childAt (wI S1 (b + 5) r (nI (k + 1))) t (nI p) (nI k)).bind fun q27 => (F_X9_contains (wI S1 (b + 5) r (nI (k + 1))) l3 q27).bind fun q29 => if q29 = 0 then (F_X5_find_148 b t l3 q7 (wI S1 (b + 5) r (nI (k + 1))) (nI r) (nI (st + u))) else ((oGI (wI S1 (b + 5) r (nI (k + 1))) b 5 5).bind fun x31 => if (301 : Int32) ≤ x31 then (F_X5_find_148 b t l3 q7 (wI S1 (b + 5) r (nI (k + 1))) (nI r) (nI (st + u))) else ((oGA (wI S1 (b + 5) r (nI (k + 1))) b 5 3).bind fun x33 => (oAI (wI S1 (b + 5) r (nI (k + 1))) x33 .int (nI r)).bind fun x35 => (F_X5_putRow (wI S1 (b + 5) r (nI (k + 1))) b q27 (nI r) (nI k) (x35 + (1 : Int32))).bind fun q37 => (oGI q37 b 5 5).bind fun x39 => F_X5_find_148 b t l3 q7 q37 (x39 - (1 : Int32)) (nI (st + u)))) := by
          unfold F_X5_find_29
          dsimp only
          rw [if_neg (show ¬ (602 : Int32) ≤ nI (st + u) from nI_ge (b := 602) (by omega) (by decide)), if_neg (nI_pos (by omega)), s5_g0 L1.1, Option.bind_some, s5_r0 L1.1 (by omega), Option.bind_some, hrow.1, s5_g4 L1.1, Option.bind_some, s5_r4 L1.1 (by omega), Option.bind_some, contains_eq _ _ (by omega), Option.bind_some, ite1 hq, c_count t1 hp61 hp, Option.bind_some, nx1, if_neg (nI_ge (by omega) (by omega)), nI_1]
          show ((some (b + 5)).bind _) = _
          rw [Option.bind_some, w0, Option.bind_some]
        generalize wI S1 (b + 5) r (nI (k + 1)) = S5 at *
        have t5 : TR S5 t T := TR_fr t1 (by omega) (fun q q1 q2 => o5 q (by omega))
        have L5 : fI (S5.2 b) 5 = nI acc2.length ∧ ∀ (j : Nat) row, acc2[j]? = some row → cI (S5.2 (b + 1)) j = nI row.1 ∧ cI (S5.2 (b + 2)) j = row.2.1 ∧ cI (S5.2 (b + 3)) j = nI row.2.2.1 ∧ cI (S5.2 (b + 4)) j = row.2.2.2 := by
          rw [o5 b (by omega), o5 (b + 1) (by omega), o5 (b + 2) (by omega), o5 (b + 3) (by omega), o5 (b + 4) (by omega)]
          exact L1.2
        have b5 : Bk S S5 b 6 := Bk_trans b1 ⟨n5, fun q hq => o5 q (by omega)⟩
        have nxr5 : cI (S5.2 (b + 5)) r = nI (k + 1) := by rw [v5]; exact pu_at _ _ _
        have nxo5 : ∀ j, j ≠ r → cI (S5.2 (b + 5)) j = cI (S1.2 (b + 5)) j := fun j hj => by rw [v5]; exact pu_ne _ _ _ hj
        rw [c_childAt t5 hp61 (by omega) hp e1, Option.bind_some, contains_eq _ _ (by omega), Option.bind_some, hsh c hc.1] at hstep
        by_cases qs : sh c = true
        · rw [if_pos qs]
          rw [ite1 qs, s5_g5 k5, Option.bind_some, L5.1, if_neg (show ¬ (301 : Int32) ≤ nI acc2.length from nI_ge (b := 301) (by omega) (by decide)), s5_g3 k5, Option.bind_some, s5_r3 k5 (by omega), Option.bind_some, (L5.2 r _ hr1).2.2.2] at hstep
          obtain ⟨S6, e6, L6, nx6, b6⟩ := c_putRow k5 L5.1 L5.2 (show acc2.length < 301 by omega) c k (nI r) (dr + 1)
          have t6 : TR S6 t T := TR_fr t5 (Nat.le_of_eq b6.1.symm) (fun q q1 q2 => b6.2 q (by omega))
          unfold F_X5_find_148 at hstep
          rw [e6, Option.bind_some, s5_g5 L6.1, Option.bind_some, L6.2.1, List.length_append, List.length_singleton, nI_pred, nI_1] at hstep
          have hrN : (acc2 ++ [(c, nI r, k, dr + 1)])[acc2.length]? = some (c, nI r, k, dr + 1) := by
            rw [List.getElem?_append_right (Nat.le_refl _), Nat.sub_self]; rfl
          have nx6N : cI (S6.2 (b + 5)) acc2.length = 0 := by rw [nx6]; exact pu_at _ _ _
          have nx6o : ∀ j, j ≠ acc2.length → cI (S6.2 (b + 5)) j = cI (S5.2 (b + 5)) j := fun j hj => by rw [nx6]; exact pu_ne _ _ _ hj
          have l6 : (acc2 ++ [(c, nI r, k, dr + 1)]).length = acc2.length + 1 := by rw [List.length_append]; rfl
          by_cases qo : op c = true
          · rw [if_pos qo]
            obtain ⟨S7, v, hv, run7, L7, t7, nx7, fr7, b7⟩ := ih c hc.1 (by omega) (by omega) ((hop c hc.1 (by omega)).trans qo) acc2.length (dr + 1) (nI r) k (acc2 ++ [(c, nI r, k, dr + 1)]) S6 (st + u + 1) L6 t6 hrN nx6N (by omega) (by omega)
            have len7 := (wlk_len hT sh op n c (dr + 1 + 1) acc2.length (acc2 ++ [(c, nI r, k, dr + 1)]) hc.1)
            have lv := c_leave (l3 := l3) (q7 := q7) (st := st + u + 1 + v) hT L7 t7 (pre_get len7.1 hrN) (by omega) hc.1 (by omega) (Or.inr nx7)
            refine ⟨S7, u + 1 + v + 1, by omega, ?_, L7, t7, ?_, fun j hj hjr => ?_, Bk_trans b5 (Bk_trans b6 b7)⟩
            · rw [show st + (u + 1 + v + 1) = st + u + 1 + v + 1 by omega]
              exact Run_t (Run_t (Run_t run1 (Run_1 hstep)) run7) (Run_1 lv)
            · rw [fr7 r (by omega) (by omega), nx6o r (by omega), nxr5]
            · rw [fr7 j (by omega) (by omega), nx6o j (by omega), nxo5 j hjr, fr1 j hj hjr]
          · rw [if_neg qo]
            have lv := c_leave (l3 := l3) (q7 := q7) (st := st + u + 1) hT L6 t6 hrN (by omega) hc.1 (by omega) (Or.inl ((hop c hc.1 (by omega)).trans (by simpa using qo)))
            refine ⟨S6, u + 1 + 1, by omega, ?_, L6, t6, ?_, fun j hj hjr => ?_, Bk_trans b5 b6⟩
            · rw [show st + (u + 1 + 1) = st + u + 1 + 1 by omega]
              exact Run_t (Run_t run1 (Run_1 hstep)) (Run_1 lv)
            · rw [nx6o r (by omega), nxr5]
            · rw [nx6o j (by omega), nxo5 j hjr, fr1 j hj hjr]
        · rw [if_neg qs]
          unfold F_X5_find_148 at hstep
          rw [ite0 (by simpa using qs), nI_1] at hstep
          refine ⟨S5, u + 1, by omega, ?_, ⟨k5, L5⟩, t5, nxr5, fun j hj hjr => by rw [nxo5 j hjr, fr1 j hj hjr], b5⟩
          exact Run_t run1 (Run_1 hstep)
    obtain ⟨S', u, h1, h2, h3, h4, h5, h6, h7⟩ := key _ (Nat.le_refl _)
    rw [ksum_e hT hp] at h1
    exact ⟨S', u, h1, h2, h3, h4, h5, h6, h7⟩
end CWL
