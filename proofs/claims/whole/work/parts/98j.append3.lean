/-! append: the reference -/
section AP3
variable {S : pS} {m : Nat} {A : As}
theorem r_appput (h : RS S m A) {x : Int32} (hl : (aTx A).length + (preB x 4).length ≤ 80) : ∃ S', iter (F_X10_append_106 m x) fu ((3 : Int32), S) = some S' ∧ MR S S' m [6] [10] ∧ fI (S'.2 m) 10 = nI (aTx A ++ preB x 4).length ∧ ∀ (k : Nat) v, (aTx A ++ preB x 4)[k]? = some v → cI (S'.2 (m + 6)) k = v := by
  obtain ⟨x1, x2, x3, x4, x5, x6, x7, x8, x9⟩ := h.2
  obtain ⟨r, e, hr⟩ := iter_fu (F := F_X10_append_106 m x) (s := ((3 : Int32), S)) (fun j s => s.1 = nI 3 - nI j ∧ MR S s.2 m [6] [10] ∧ fI (s.2.2 m) 10 = nI (aTx A ++ preB x j).length ∧ ∀ (k : Nat) v, (aTx A ++ preB x j)[k]? = some v → cI (s.2.2 (m + 6)) k = v) (P := fun r => MR S r m [6] [10] ∧ fI (r.2 m) 10 = nI (aTx A ++ preB x 4).length ∧ ∀ (k : Nat) v, (aTx A ++ preB x 4)[k]? = some v → cI (r.2 (m + 6)) k = v) 4 (by decide) ⟨rfl, MR_refl h.1.1 _ _, by
      show _ = nI (aTx A ++ []).length
      rw [List.append_nil]; exact x7, fun k v hk => by
      have hk' : (aTx A ++ [])[k]? = some v := hk
      rw [List.append_nil] at hk'
      exact x8 k v hk'⟩
    (by
      rintro ⟨i, S1⟩ ⟨hi, h1, h2, h3⟩
      have hi' : i = nI 3 - nI 4 := hi
      subst hi'
      unfold F_X10_append_106
      rw [if_pos (show nI 3 - nI 4 < 0 by decide)]
      exact ⟨_, rfl, h1, h2, h3⟩)
    (by
      rintro j ⟨i, S1⟩ hj ⟨hi, h1, h2, h3⟩
      have hi' : i = nI 3 - nI j := hi
      subst hi'
      have h1' : MR S S1 m [6] [10] := h1
      have h2' : fI (S1.2 m) 10 = nI (aTx A ++ preB x j).length := h2
      have h3' : ∀ (k : Nat) v, (aTx A ++ preB x j)[k]? = some v → cI (S1.2 (m + 6)) k = v := h3
      have hm := preB_mono x (show j + 1 ≤ 4 by omega)
      have hin : F_X10_append_106 m x (nI 3 - nI j, S1) = if bsq x j = 0 then some (.inl (nI 3 - nI (j + 1), S1)) else ((oGA S1 m 10 9).bind fun x9 => (oGI S1 m 10 10).bind fun x11 => (oSI S1 x9 .int x11 (bsq x j)).bind fun S13 => (oGI S13 m 10 10).bind fun x15 => (oPI S13 m 10 10 (x15 + (1 : Int32))).bind fun S17 => some (.inl (nI 3 - nI (j + 1), S17))) := by
        unfold F_X10_append_106
        dsimp only
        rw [sub1 j hj, if_neg (nI_pos (by omega)), sub1s j hj]
        rfl
      rw [hin]
      by_cases z : bsq x j = 0
      · rw [if_pos z]
        refine ⟨_, rfl, rfl, h1', ?_, fun k v hk => ?_⟩
        · rw [preB_s, if_pos z, List.append_nil]; exact h2'
        · rw [preB_s, if_pos z, List.append_nil] at hk; exact h3' k v hk
      · rw [preB_s, if_neg z, List.length_append, List.length_singleton] at hm
        have hlen : (aTx A ++ preB x j).length < 80 := by rw [List.length_append]; omega
        rw [if_neg z, s10_g9 h1'.1, Option.bind_some, s10_g10 h1'.1, Option.bind_some, h2', s10_w9 h1'.1 hlen, Option.bind_some, preB_s, if_neg z, ← List.append_assoc]
        generalize aTx A ++ preB x j = tx at *
        have m2 := MR_I h1' (j := 6) (by decide) (by decide) (by decide) tx.length (bsq x j)
        have v2 := s10_v9 h1'.1 tx.length (bsq x j)
        have o2 : ∀ q, q ≠ m + 6 → (wI S1 (m + 6) tx.length (bsq x j)).2 q = S1.2 q := fun q hq => wI_ne _ _ _ hq
        generalize wI S1 (m + 6) tx.length (bsq x j) = S2 at *
        rw [s10_g10 m2.1, Option.bind_some, o2 m (by omega), h2', nI_1, s10_p10 m2.1, Option.bind_some]
        have k3 := s10_k10 m2.1 m2.1 (nI (tx.length + 1))
        have m3 := MR_F m2 (k := 10) (by decide) k3
        have v3 := s10_v10 m2.1 (nI (tx.length + 1))
        have o3 : ∀ q, q ≠ m → (wF S2 m 10 (.int (nI (tx.length + 1)))).2 q = S2.2 q := fun q hq => wF_ne _ _ _ hq
        generalize wF S2 m 10 (.int (nI (tx.length + 1))) = S3 at *
        refine ⟨_, rfl, rfl, m3, by show fI (S3.2 m) 10 = _; rw [v3, List.length_append]; rfl, fun k v hk => ?_⟩
        show cI (S3.2 (m + 6)) k = v
        rw [o3 _ (by omega), v2]
        by_cases d : k = tx.length
        · subst d
          rw [List.getElem?_append_right (Nat.le_refl _), Nat.sub_self] at hk
          have : bsq x j = v := by simpa using hk
          rw [pu_at, this]
        · rw [pu_ne _ _ _ d]
          have hk2 := (List.getElem?_eq_some_iff.mp hk).1
          rw [List.length_append, List.length_singleton] at hk2
          rw [List.getElem?_append_left (by omega)] at hk
          exact h3' k v hk)
  exact ⟨r, e, hr⟩
theorem r_append (h : RS S m A) (hA : aOk A) (x : Int32) : rC S m (F_X10_append S m x) (stAppend A x) := by
  unfold F_X10_append stAppend
  have hl := hA.2.2.2.2.2.2.1
  have hp4 : (preB x 4).length ≤ 4 := by
    unfold preB
    refine Nat.le_trans (List.length_filter_le _ _) ?_
    rw [List.length_map, List.length_range]
    exact Nat.le_refl _
  obtain ⟨S1, e1, h1, m1, t1⟩ := r_start h 0
  rw [s10_oF h.1.1, e1, Option.bind_some, r_appchk, Option.bind_some]
  dsimp only
  cases hb : allB x 4
  · rw [ite4 rfl, if_pos rfl]
    exact rC_fail (Bk_MR m1) h1 1 0 (by decide)
  · rw [ite5 rfl, if_neg (show ¬ (true = false) by decide), s10_g10 h1.1.1, Option.bind_some, h1.2.2.2.2.2.2.2.1, nI_add]
    by_cases c : 80 < (aTx A).length + (preB x 4).length
    · rw [if_pos c, if_neg (show ¬ nI ((aTx A).length + (preB x 4).length) ≤ (80 : Int32) from nI_ge (b := (aTx A).length + (preB x 4).length) c (by omega))]
      exact rC_fail (Bk_MR m1) h1 2 0 (by decide)
    · rw [if_neg c, if_pos (show nI ((aTx A).length + (preB x 4).length) ≤ (80 : Int32) from nI_le (b := 80) (by omega) (by decide))]
      obtain ⟨S2, e2, m2, f2, g2⟩ := r_appput h1 (x := x) (by omega)
      rw [e2, Option.bind_some, s10_g10 m2.1, Option.bind_some, f2, List.length_append]
      obtain ⟨x1, x2, x3, x4, x5, x6, x7, x8, x9, x10, x11, x12, x13⟩ := h1.2
      have f : ∀ k, k ∉ [10] → fI (S2.2 m) k = fI (S1.2 m) k := fun k hk => m2.2.2.2.2 k hk
      have a : ∀ j, j ≠ 6 → j ≠ 0 → S2.2 (m + j) = S1.2 (m + j) := fun j hj h0 => m2.2.2.2.1 j (by simpa using hj) h0
      refine ⟨_, _, rfl, ⟨MR_RR m2 (by decide) h1.1, ?_⟩, Bk_trans (Bk_MR m1) (Bk_MR m2), by rw [f 0 (by decide)]; exact t1, fun _ => rfl⟩
      unfold RX
      rw [f 5 (by decide), f 6 (by decide), f 8 (by decide), f 11 (by decide), f 13 (by decide), f 30 (by decide), a 4 (by decide) (by decide), a 2 (by decide) (by decide), a 5 (by decide) (by decide), a 7 (by decide) (by decide), a 15 (by decide) (by decide), a 16 (by decide) (by decide), a 17 (by decide) (by decide), a 18 (by decide) (by decide), a 19 (by decide) (by decide)]
      exact ⟨x1, x2, x3, x4, x5, x6, f2, g2, x9, x10, x11, x12, x13⟩
end AP3
