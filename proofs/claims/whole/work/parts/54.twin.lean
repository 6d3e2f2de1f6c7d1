/-! children are put and taken away: the class and the reference alike -/
theorem c_insL {S : pS} {a : Nat} (h : Sh S a sp8) (l1 l3 : Int32) {fr k cnt : Nat} (hk : k ≤ cnt) (hb : fr + cnt < 732) : ∃ S', iter (F_X8_insertChild_14 a l1 (nI k) l3 (nI fr)) fu (nI cnt, S) = some S' ∧ Sh S' a sp8 ∧ S'.1 = S.1 ∧ (∀ q, q ≠ a + 2 → S'.2 q = S.2 q) ∧
    ∀ j, cI (S'.2 (a + 2)) j = if fr + k < j ∧ j ≤ fr + cnt then cI (S.2 (a + 2)) (j - 1) else cI (S.2 (a + 2)) j := by
  obtain ⟨S', e, hS⟩ := iter_fu (F := F_X8_insertChild_14 a l1 (nI k) l3 (nI fr)) (s := (nI cnt, S)) (fun t s => s.1 = nI (cnt - t) ∧ Sh s.2 a sp8 ∧ s.2.1 = S.1 ∧ (∀ q, q ≠ a + 2 → s.2.2 q = S.2 q) ∧ ∀ j, cI (s.2.2 (a + 2)) j = if fr + (cnt - t) < j ∧ j ≤ fr + cnt then cI (S.2 (a + 2)) (j - 1) else cI (S.2 (a + 2)) j)
    (P := fun S' => Sh S' a sp8 ∧ S'.1 = S.1 ∧ (∀ q, q ≠ a + 2 → S'.2 q = S.2 q) ∧ ∀ j, cI (S'.2 (a + 2)) j = if fr + k < j ∧ j ≤ fr + cnt then cI (S.2 (a + 2)) (j - 1) else cI (S.2 (a + 2)) j) (cnt - k) (by omega)
    ⟨rfl, h, rfl, fun _ _ => rfl, fun j => by rw [if_neg (by omega)]⟩
    (by
      rintro ⟨b, S1⟩ ⟨h1, h2, h3, h4, h5⟩
      dsimp only at h1 h2 h3 h4 h5
      have e1 : cnt - (cnt - k) = k := by omega
      rw [e1] at h1 h5
      unfold F_X8_insertChild_14
      rw [if_pos (by rw [h1]; exact Int32.le_refl _)]
      exact ⟨_, rfl, h2, h3, h4, h5⟩)
    (by
      rintro t ⟨b, S1⟩ ht ⟨h1, h2, h3, h4, h5⟩
      dsimp only at h1 h2 h3 h4 h5
      obtain ⟨u, hu⟩ : ∃ u, cnt - t = u + 1 := ⟨cnt - t - 1, by omega⟩
      rw [hu] at h1 h5
      subst h1
      unfold F_X8_insertChild_14
      rw [if_neg (nI_ge (by omega) (by omega)), s8_g1 h2, Option.bind_some, Option.bind_some]
      dsimp only
      have e1 : nI fr + nI (u + 1) = nI (fr + (u + 1)) := nI_add _ _
      have e2 : nI (fr + (u + 1)) - 1 = nI (fr + u) := nI_pred _
      rw [e1, e2, s8_r1 h2 (by omega), Option.bind_some, s8_w1 h2 (by omega), Option.bind_some, pk_m1]
      refine ⟨_, rfl, ?_, sh_wI h2 _ _ _, h3, fun q hq => ?_, fun j => ?_⟩
      · show nI u = nI (cnt - (t + 1)); congr 1; omega
      · show (wI S1 (a + 2) (fr + (u + 1)) _).2 q = _
        rw [wI_ne _ _ _ hq]; exact h4 q hq
      · show cI ((wI S1 (a + 2) (fr + (u + 1)) _).2 (a + 2)) j = _
        rw [s8_v1 h2]
        have e3 : cnt - (t + 1) = u := by omega
        rw [e3]
        by_cases c : j = fr + (u + 1)
        · subst c
          rw [pu_at, h5, if_neg (by omega), if_pos (by omega)]
          congr 1
        · rw [pu_ne _ _ _ c, h5]
          by_cases d : fr + (u + 1) < j ∧ j ≤ fr + cnt
          · rw [if_pos d, if_pos (by omega)]
          · rw [if_neg d, if_neg (by omega)])
  exact ⟨S', e, hS⟩
theorem c_remL {S : pS} {a : Nat} (h : Sh S a sp8) {p fr k cnt : Nat} (hk : k ≤ cnt) (hb : fr + cnt < 732) (hp : p < 61) (hc : cI (S.2 (a + 1)) (p) = nI cnt) : ∃ S', iter (F_X8_removeChild_18 a (nI p) (nI fr)) fu (nI k, S) = some S' ∧ Sh S' a sp8 ∧ S'.1 = S.1 ∧ (∀ q, q ≠ a + 2 → S'.2 q = S.2 q) ∧
    ∀ j, cI (S'.2 (a + 2)) j = if fr + k ≤ j ∧ j < fr + cnt then cI (S.2 (a + 2)) (j + 1) else cI (S.2 (a + 2)) j := by
  obtain ⟨S', e, hS⟩ := iter_fu (F := F_X8_removeChild_18 a (nI p) (nI fr)) (s := (nI k, S)) (fun t s => s.1 = nI (k + t) ∧ Sh s.2 a sp8 ∧ s.2.1 = S.1 ∧ (∀ q, q ≠ a + 2 → s.2.2 q = S.2 q) ∧ ∀ j, cI (s.2.2 (a + 2)) j = if fr + k ≤ j ∧ j < fr + (k + t) then cI (S.2 (a + 2)) (j + 1) else cI (S.2 (a + 2)) j)
    (P := fun S' => Sh S' a sp8 ∧ S'.1 = S.1 ∧ (∀ q, q ≠ a + 2 → S'.2 q = S.2 q) ∧ ∀ j, cI (S'.2 (a + 2)) j = if fr + k ≤ j ∧ j < fr + cnt then cI (S.2 (a + 2)) (j + 1) else cI (S.2 (a + 2)) j) (cnt - k) (by omega)
    ⟨rfl, h, rfl, fun _ _ => rfl, fun j => by rw [if_neg (by omega)]⟩
    (by
      rintro ⟨b, S1⟩ ⟨h1, h2, h3, h4, h5⟩
      dsimp only at h1 h2 h3 h4 h5
      have e1 : k + (cnt - k) = cnt := by omega
      rw [e1] at h1 h5
      have hc1 : cI (S1.2 (a + 1)) (p) = nI cnt := by
        rw [h4 _ (by omega)]; exact hc
      unfold F_X8_removeChild_18
      rw [s8_g0 h2, Option.bind_some, s8_r0 h2 hp, Option.bind_some, hc1]
      rw [if_pos (by rw [h1]; exact Int32.le_refl _)]
      exact ⟨_, rfl, h2, h3, h4, h5⟩)
    (by
      rintro t ⟨b, S1⟩ ht ⟨h1, h2, h3, h4, h5⟩
      dsimp only at h1 h2 h3 h4 h5
      have hc1 : cI (S1.2 (a + 1)) (p) = nI cnt := by
        rw [h4 _ (by omega)]; exact hc
      subst h1
      unfold F_X8_removeChild_18
      rw [s8_g0 h2, Option.bind_some, s8_r0 h2 hp, Option.bind_some, hc1]
      rw [if_neg (nI_ge (by omega) (by omega)), s8_g1 h2, Option.bind_some, Option.bind_some]
      dsimp only
      have e1 : nI fr + nI (k + t) = nI (fr + (k + t)) := nI_add _ _
      have e2 : nI (fr + (k + t)) + 1 = nI (fr + (k + t) + 1) := nI_1 _
      rw [e1, e2, s8_r1 h2 (by omega), Option.bind_some, s8_w1 h2 (by omega), Option.bind_some, nI_1]
      refine ⟨_, rfl, rfl, sh_wI h2 _ _ _, h3, fun q hq => ?_, fun j => ?_⟩
      · show (wI S1 (a + 2) (fr + (k + t)) _).2 q = _
        rw [wI_ne _ _ _ hq]; exact h4 q hq
      · show cI ((wI S1 (a + 2) (fr + (k + t)) _).2 (a + 2)) j = _
        rw [s8_v1 h2]
        by_cases c : j = fr + (k + t)
        · subst c
          rw [pu_at, h5, if_neg (by omega), if_pos (by omega)]
        · rw [pu_ne _ _ _ c, h5]
          by_cases d : fr + k ≤ j ∧ j < fr + (k + t)
          · rw [if_pos d, if_pos (by omega)]
          · rw [if_neg d, if_neg (by omega)])
  exact ⟨S', e, hS⟩

theorem r_insL {S : pS} {a : Nat} (h : Sh S a sp10) (l1 l3 : Int32) {fr k cnt : Nat} (hk : k ≤ cnt) (hb : fr + cnt < 1709) : ∃ S', iter (F_X10_puts_22 a l1 (nI k) l3 (nI fr)) fu (nI cnt, S) = some S' ∧ Sh S' a sp10 ∧ S'.1 = S.1 ∧ (∀ q, q ≠ a + 1 → S'.2 q = S.2 q) ∧
    ∀ j, cI (S'.2 (a + 1)) j = if fr + k < j ∧ j ≤ fr + cnt then cI (S.2 (a + 1)) (j - 1) else cI (S.2 (a + 1)) j := by
  obtain ⟨S', e, hS⟩ := iter_fu (F := F_X10_puts_22 a l1 (nI k) l3 (nI fr)) (s := (nI cnt, S)) (fun t s => s.1 = nI (cnt - t) ∧ Sh s.2 a sp10 ∧ s.2.1 = S.1 ∧ (∀ q, q ≠ a + 1 → s.2.2 q = S.2 q) ∧ ∀ j, cI (s.2.2 (a + 1)) j = if fr + (cnt - t) < j ∧ j ≤ fr + cnt then cI (S.2 (a + 1)) (j - 1) else cI (S.2 (a + 1)) j)
    (P := fun S' => Sh S' a sp10 ∧ S'.1 = S.1 ∧ (∀ q, q ≠ a + 1 → S'.2 q = S.2 q) ∧ ∀ j, cI (S'.2 (a + 1)) j = if fr + k < j ∧ j ≤ fr + cnt then cI (S.2 (a + 1)) (j - 1) else cI (S.2 (a + 1)) j) (cnt - k) (by omega)
    ⟨rfl, h, rfl, fun _ _ => rfl, fun j => by rw [if_neg (by omega)]⟩
    (by
      rintro ⟨b, S1⟩ ⟨h1, h2, h3, h4, h5⟩
      dsimp only at h1 h2 h3 h4 h5
      have e1 : cnt - (cnt - k) = k := by omega
      rw [e1] at h1 h5
      unfold F_X10_puts_22
      rw [if_pos (by rw [h1]; exact Int32.le_refl _)]
      exact ⟨_, rfl, h2, h3, h4, h5⟩)
    (by
      rintro t ⟨b, S1⟩ ht ⟨h1, h2, h3, h4, h5⟩
      dsimp only at h1 h2 h3 h4 h5
      obtain ⟨u, hu⟩ : ∃ u, cnt - t = u + 1 := ⟨cnt - t - 1, by omega⟩
      rw [hu] at h1 h5
      subst h1
      unfold F_X10_puts_22
      rw [if_neg (nI_ge (by omega) (by omega)), s10_g1 h2, Option.bind_some, Option.bind_some]
      dsimp only
      have e1 : nI fr + nI (u + 1) = nI (fr + (u + 1)) := nI_add _ _
      have e2 : nI (fr + (u + 1)) - 1 = nI (fr + u) := nI_pred _
      rw [e1, e2, s10_r1 h2 (by omega), Option.bind_some, s10_w1 h2 (by omega), Option.bind_some, pk_m1]
      refine ⟨_, rfl, ?_, sh_wI h2 _ _ _, h3, fun q hq => ?_, fun j => ?_⟩
      · show nI u = nI (cnt - (t + 1)); congr 1; omega
      · show (wI S1 (a + 1) (fr + (u + 1)) _).2 q = _
        rw [wI_ne _ _ _ hq]; exact h4 q hq
      · show cI ((wI S1 (a + 1) (fr + (u + 1)) _).2 (a + 1)) j = _
        rw [s10_v1 h2]
        have e3 : cnt - (t + 1) = u := by omega
        rw [e3]
        by_cases c : j = fr + (u + 1)
        · subst c
          rw [pu_at, h5, if_neg (by omega), if_pos (by omega)]
          congr 1
        · rw [pu_ne _ _ _ c, h5]
          by_cases d : fr + (u + 1) < j ∧ j ≤ fr + cnt
          · rw [if_pos d, if_pos (by omega)]
          · rw [if_neg d, if_neg (by omega)])
  exact ⟨S', e, hS⟩
theorem r_remL {S : pS} {a : Nat} (h : Sh S a sp10) (l4 : Int32) {p fr k cnt : Nat} (hk : k ≤ cnt) (hb : fr + cnt < 1709) (hp : 916 + p < fr) (hc : cI (S.2 (a + 1)) (916 + p) = nI cnt) : ∃ S', iter (F_X10_pulls_36 a (nI p) (nI fr) l4) fu (nI k, S) = some S' ∧ Sh S' a sp10 ∧ S'.1 = S.1 ∧ (∀ q, q ≠ a + 1 → S'.2 q = S.2 q) ∧
    ∀ j, cI (S'.2 (a + 1)) j = if fr + k ≤ j ∧ j < fr + cnt then cI (S.2 (a + 1)) (j + 1) else cI (S.2 (a + 1)) j := by
  obtain ⟨S', e, hS⟩ := iter_fu (F := F_X10_pulls_36 a (nI p) (nI fr) l4) (s := (nI k, S)) (fun t s => s.1 = nI (k + t) ∧ Sh s.2 a sp10 ∧ s.2.1 = S.1 ∧ (∀ q, q ≠ a + 1 → s.2.2 q = S.2 q) ∧ ∀ j, cI (s.2.2 (a + 1)) j = if fr + k ≤ j ∧ j < fr + (k + t) then cI (S.2 (a + 1)) (j + 1) else cI (S.2 (a + 1)) j)
    (P := fun S' => Sh S' a sp10 ∧ S'.1 = S.1 ∧ (∀ q, q ≠ a + 1 → S'.2 q = S.2 q) ∧ ∀ j, cI (S'.2 (a + 1)) j = if fr + k ≤ j ∧ j < fr + cnt then cI (S.2 (a + 1)) (j + 1) else cI (S.2 (a + 1)) j) (cnt - k) (by omega)
    ⟨rfl, h, rfl, fun _ _ => rfl, fun j => by rw [if_neg (by omega)]⟩
    (by
      rintro ⟨b, S1⟩ ⟨h1, h2, h3, h4, h5⟩
      dsimp only at h1 h2 h3 h4 h5
      have e1 : k + (cnt - k) = cnt := by omega
      rw [e1] at h1 h5
      have hc1 : cI (S1.2 (a + 1)) (916 + p) = nI cnt := by
        rw [h5, if_neg (by omega)]; exact hc
      unfold F_X10_pulls_36
      rw [s10_g1 h2, Option.bind_some, li_916, nI_add, s10_r1 h2 (by omega), Option.bind_some, hc1]
      rw [if_pos (by rw [h1]; exact Int32.le_refl _)]
      exact ⟨_, rfl, h2, h3, h4, h5⟩)
    (by
      rintro t ⟨b, S1⟩ ht ⟨h1, h2, h3, h4, h5⟩
      dsimp only at h1 h2 h3 h4 h5
      have hc1 : cI (S1.2 (a + 1)) (916 + p) = nI cnt := by
        rw [h5, if_neg (by omega)]; exact hc
      subst h1
      unfold F_X10_pulls_36
      rw [s10_g1 h2, Option.bind_some, li_916, nI_add, s10_r1 h2 (by omega), Option.bind_some, hc1]
      rw [if_neg (nI_ge (by omega) (by omega)), Option.bind_some, Option.bind_some]
      dsimp only
      have e1 : nI fr + nI (k + t) = nI (fr + (k + t)) := nI_add _ _
      have e2 : nI (fr + (k + t)) + 1 = nI (fr + (k + t) + 1) := nI_1 _
      rw [e1, e2, s10_r1 h2 (by omega), Option.bind_some, s10_w1 h2 (by omega), Option.bind_some, nI_1]
      refine ⟨_, rfl, rfl, sh_wI h2 _ _ _, h3, fun q hq => ?_, fun j => ?_⟩
      · show (wI S1 (a + 1) (fr + (k + t)) _).2 q = _
        rw [wI_ne _ _ _ hq]; exact h4 q hq
      · show cI ((wI S1 (a + 1) (fr + (k + t)) _).2 (a + 1)) j = _
        rw [s10_v1 h2]
        by_cases c : j = fr + (k + t)
        · subst c
          rw [pu_at, h5, if_neg (by omega), if_pos (by omega)]
        · rw [pu_ne _ _ _ c, h5]
          by_cases d : fr + k ≤ j ∧ j < fr + (k + t)
          · rw [if_pos d, if_pos (by omega)]
          · rw [if_neg d, if_neg (by omega)])
  exact ⟨S', e, hS⟩
