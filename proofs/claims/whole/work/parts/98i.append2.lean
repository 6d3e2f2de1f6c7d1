/-! append: the class -/
section AP2
variable {S : pS} {R : Nat → Option Nat} {c1 c2 : Nat} {A : As}
def stAppend (A : As) (x : Int32) : Rs := if allB x 4 = false then (A, 1, 0) else if 80 < (aTx A).length + (preB x 4).length then (A, 2, 0) else (aSetTx A (aTx A ++ preB x 4), 0, nI ((aTx A).length + (preB x 4).length))
theorem chr_n : ∀ n, n < 127 → ((nI n).toUInt32 % 65536).toInt32 = nI n ∧ vp_nar .char (nI n) = nI n := by decide +kernel
theorem chr_ok {v : Int32} (h : okBy v = true) : (v.toUInt32 % 65536).toInt32 = v ∧ vp_nar .char v = v := by
  unfold okBy at h
  rw [Bool.or_eq_true, Bool.and_eq_true, decide_eq_true_eq, decide_eq_true_eq, decide_eq_true_eq] at h
  rcases h with h | ⟨h1, h2⟩
  · rw [h]; exact chr_n 0 (by decide)
  · rcases nI_split v with z | ⟨n, hn, rfl⟩
    · exact absurd (Int32.lt_trans z (by decide)) h1
    · have : n < 127 := by
        have := (nI_leI (b := 126) hn (by decide)).mp h2
        omega
      exact chr_n n this
theorem c_put7 {tx : List Int32} (h : XT S tx) (hl : tx.length < 80) {v : Int32} (hv : vp_nar .char v = v) : ∃ S', F_X7_put S 53 v = some S' ∧ S'.1 = S.1 ∧ (∀ q, ¬ (53 ≤ q ∧ q < 55) → S'.2 q = S.2 q) ∧ XT S' (tx ++ [v]) := by
  obtain ⟨k0, k1, k2⟩ := h
  unfold F_X7_put
  have eg : oGA S 53 7 0 = some 54 := s7_g0 k0
  have ew : oSI S 54 .char (nI tx.length) v = some (wI S 54 tx.length v) := s7_w0 k0 hl v
  rw [s7_oF k0, s7_g1 k0, Option.bind_some, k1, if_neg (show ¬ (80 : Int32) ≤ nI tx.length from nI_ge (b := 80) hl (by decide)), eg, Option.bind_some, Option.bind_some, ew, Option.bind_some]
  have k3 := sh_wI k0 54 tx.length v
  have v3 : cI ((wI S 54 tx.length v).2 54) = pu (cI (S.2 54)) tx.length v := s7_v0 k0 _ hv
  have o3 : ∀ q, q ≠ 54 → (wI S 54 tx.length v).2 q = S.2 q := fun q hq => wI_ne _ _ _ hq
  have n3 : (wI S 54 tx.length v).1 = S.1 := rfl
  generalize wI S 54 tx.length v = S3 at *
  rw [s7_g1 k3, Option.bind_some, o3 53 (by decide), k1, nI_1, s7_p1 k3, Option.bind_some]
  have k4 := s7_k1 k3 k3 (nI (tx.length + 1))
  have v4 := s7_v1 k3 (nI (tx.length + 1))
  have o4 : ∀ q, q ≠ 53 → (wF S3 53 1 (.int (nI (tx.length + 1)))).2 q = S3.2 q := fun q hq => wF_ne _ _ _ hq
  have n4 : (wF S3 53 1 (.int (nI (tx.length + 1)))).1 = S.1 := n3
  generalize wF S3 53 1 (.int (nI (tx.length + 1))) = S4 at *
  refine ⟨S4, rfl, n4, fun q hq => (o4 q (by omega)).trans (o3 q (by omega)), k4, by rw [v4, List.length_append]; rfl, fun k y hk => ?_⟩
  rw [o4 54 (by decide), v3]
  by_cases d : k = tx.length
  · subst d
    rw [List.getElem?_append_right (Nat.le_refl _), Nat.sub_self] at hk
    have : v = y := by simpa using hk
    rw [pu_at, this]
  · rw [pu_ne _ _ _ d]
    have hk2 := (List.getElem?_eq_some_iff.mp hk).1
    rw [List.length_append, List.length_singleton] at hk2
    rw [List.getElem?_append_left (by omega)] at hk
    exact k2 k y hk
theorem preB_mono (x : Int32) {j : Nat} (hj : j ≤ 4) : (preB x j).length ≤ (preB x 4).length := by
  have : ∀ d, (preB x j).length ≤ (preB x (j + d)).length := by
    intro d
    induction d with
    | zero => exact Nat.le_refl _
    | succ d ih =>
      show _ ≤ (preB x (j + d + 1)).length
      rw [preB_s, List.length_append]
      omega
  have h := this (4 - j)
  rw [show j + (4 - j) = 4 by omega] at h
  exact h
theorem allB_at {x : Int32} (h : allB x 4 = true) {j : Nat} (hj : j < 4) : okBy (bsq x j) = true := List.all_eq_true.mp h j (List.mem_range.mpr hj)
theorem c_appput (h : CSr S A R c1 c2) {x : Int32} (hb : allB x 4 = true) (hl : (aTx A).length + (preB x 4).length ≤ 80) : ∃ S', iter (F_X9_append_80 0 x) fu ((24 : Int32), S) = some S' ∧ S'.1 = S.1 ∧ (∀ q, ¬ (53 ≤ q ∧ q < 55) → S'.2 q = S.2 q) ∧ XT S' (aTx A ++ preB x 4) := by
  obtain ⟨r, e, hr⟩ := iter_fu (F := F_X9_append_80 0 x) (s := ((24 : Int32), S)) (fun j s => s.1 = nI 24 - nI (8 * j) ∧ s.2.1 = S.1 ∧ (∀ q, ¬ (53 ≤ q ∧ q < 55) → s.2.2 q = S.2 q) ∧ XT s.2 (aTx A ++ preB x j)) (P := fun r => r.1 = S.1 ∧ (∀ q, ¬ (53 ≤ q ∧ q < 55) → r.2 q = S.2 q) ∧ XT r (aTx A ++ preB x 4)) 4 (by decide) ⟨rfl, rfl, fun _ _ => rfl, by
      show XT S (aTx A ++ [])
      rw [List.append_nil]
      exact h.2.2.2.2.2.1⟩
    (by
      rintro ⟨i, S1⟩ ⟨hi, h1, h2, h3⟩
      have hi' : i = nI 24 - nI (8 * 4) := hi
      subst hi'
      unfold F_X9_append_80
      rw [if_pos (show nI 24 - nI (8 * 4) < 0 by decide)]
      exact ⟨_, rfl, h1, h2, h3⟩)
    (by
      rintro j ⟨i, S1⟩ hj ⟨hi, h1, h2, h3⟩
      have hi' : i = nI 24 - nI (8 * j) := hi
      subst hi'
      have h1' : S1.1 = S.1 := h1
      have h2' : ∀ q, ¬ (53 ≤ q ∧ q < 55) → S1.2 q = S.2 q := h2
      have h3' : XT S1 (aTx A ++ preB x j) := h3
      have hm := preB_mono x (show j + 1 ≤ 4 by omega)
      unfold F_X9_append_80
      dsimp only
      rw [sub8 j hj, if_neg (nI_pos (by omega)), bsq_c x hj, sub8s j hj]
      by_cases z : bsq x j = 0
      · rw [if_pos z]
        refine ⟨_, rfl, rfl, h1', h2', ?_⟩
        rw [preB_s, if_pos z, List.append_nil]
        exact h3'
      · have hc := chr_ok (allB_at hb hj)
        have xo := XO_fr h.1 (S' := S1) (by omega) (h2' 0 (by decide))
        rw [preB_s, if_neg z, List.length_append, List.length_singleton] at hm
        obtain ⟨S2, e2, n2, o2, x2⟩ := c_put7 h3' (by rw [List.length_append]; omega) hc.2
        rw [if_neg z, (x_gs xo).2.2.2.2.2.2.2.1, Option.bind_some, hc.1, e2, Option.bind_some]
        refine ⟨_, rfl, rfl, n2.trans h1', fun q hq => (o2 q hq).trans (h2' q hq), ?_⟩
        rw [preB_s, if_neg z, ← List.append_assoc]
        exact x2)
  exact ⟨r, e, hr⟩
def eNA : Int32 → String := fun k => if k = 1 then nIAE else nISE
theorem c_append (h : CSr S A R c1 c2) (hA : aOk A) (x : Int32) : cC S eNA (F_X9_append S 0 x) (stAppend A x) := by
  unfold F_X9_append stAppend
  have hl := hA.2.2.2.2.2.2.1
  have hcc : (c1 = 35 ∧ c2 = 41) ∨ (c1 = 41 ∧ c2 = 35) := h.2.2.2.2.2.2.2.2.2.2.1
  have hp4 : (preB x 4).length ≤ 4 := by
    unfold preB
    refine Nat.le_trans (List.length_filter_le _ _) ?_
    rw [List.length_map, List.length_range]
    exact Nat.le_refl _
  obtain ⟨r, e, hr⟩ := c_appchk (S := S) x
  rw [x_oF h.1, e, Option.bind_some]
  rcases hr with ⟨rfl, hb⟩ | ⟨rfl, hb⟩
  · rw [if_pos hb]
    simp only [Sum.elim_inl]
    unfold F_X9_append_37
    exact cC_x (Fm_refl _) (cs_of h) (by decide) rfl
  · rw [if_neg (by rw [hb]; decide)]
    simp only [Sum.elim_inr]
    have k0 := h.2.2.2.2.2.1
    have eroom : F_X7_hasRoomFor S 53 (nI (preB x 4).length) = some (if 80 < (aTx A).length + (preB x 4).length then 0 else 1) := by
      unfold F_X7_hasRoomFor
      rw [s7_oF k0.1, s7_g1 k0.1, Option.bind_some, k0.2.1, nI_add]
      by_cases c : 80 < (aTx A).length + (preB x 4).length
      · rw [if_pos (show (80 : Int32) < nI ((aTx A).length + (preB x 4).length) from nI_lt (a := 80) c (by omega)), if_pos c]
      · rw [if_neg (show ¬ (80 : Int32) < nI ((aTx A).length + (preB x 4).length) from fun w => c ((nI_ltI (a := 80) (b := (aTx A).length + (preB x 4).length) (by decide) (by omega)).mp w)), if_neg c]
    rw [(x_gs h.1).2.2.2.2.2.2.2.1, Option.bind_some, eroom, Option.bind_some]
    by_cases c : 80 < (aTx A).length + (preB x 4).length
    · rw [if_pos c, if_pos c, if_neg (by decide)]
      exact cC_x (Fm_refl _) (cs_of h) (by decide) rfl
    · rw [if_neg c, if_neg c, if_pos (by decide)]
      obtain ⟨S1, e1, n1, o1, x1⟩ := c_appput h hb (by omega)
      obtain ⟨h1, f1⟩ := CSr_re (S' := S1) (H := aHo A) (tx := aTx A ++ preB x 4) (er := aEr A) (ch := aCh A) (L := aCn A) h n1 (fun q q1 q2 q3 q4 q5 => o1 q (by omega)) (XO_fr h.1 (by omega) (o1 0 (by decide))) (HS_fr h.2.2.2.1 (by omega) (fun q q1 q2 => o1 q (by omega))) (CD_fr h.2.2.2.2.1 (by omega) (fun q q1 q2 => o1 q (by omega))) x1 (CN_fr h.2.2.2.2.2.2.1 (by omega) (fun q q1 q2 => o1 q (by omega)))
      have es : F_X7_size S1 53 = some (nI ((aTx A).length + (preB x 4).length)) := by
        unfold F_X7_size
        rw [s7_oF x1.1, s7_g1 x1.1, Option.bind_some, x1.2.1, List.length_append]
      rw [e1, Option.bind_some, (x_gs h1.1).2.2.2.2.2.2.2.1, Option.bind_some, es, Option.bind_some]
      exact cC_ok f1 (cs_of h1)
end AP2
