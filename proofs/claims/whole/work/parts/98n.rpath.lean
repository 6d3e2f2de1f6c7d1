/-! the path of a line: the reference -/
section RPT
variable {S : pS} {b m t : Nat} {A : As}
theorem r_upFrom (h : RS S m A) (hA : aOk A) (hL : LM S m (linesT A)) {j r dd : Nat} {row rw' : Rw} (hl : LnR A j row (r + 1) rw' dd) : F_X10_upFrom S m (nI j) = some (nI r) := by
  have hp := lines_pos A hA
  have h1 := LnR_lt hl
  have h2 := hl.le
  have h60 := hl.d60
  unfold F_X10_upFrom
  have ed : cI (S.2 (m + 26)) j = nI dd := by rw [(hL.2 j row hl.at_).2.1, hl.dp]
  have er : cI (S.2 (m + 26)) r = nI dd - 1 := by
    rw [(hL.2 r rw' hl.up).2.1, hl.dr]
  obtain ⟨row2, r2, rw2, d2, h3, -⟩ := line_row hA (show r + 1 < (linesT A).length by omega)
  have e := hl.up
  rw [h3.at_] at e
  cases e
  have hdr := hl.dr
  rw [h3.dp] at hdr
  obtain ⟨x, e, hx⟩ := iter_fu (F := F_X10_upFrom_2 m (nI j) S) (s := nI j) (fun k s => s = nI (j - k)) (P := fun x => x = nI r) (j - r) (by omega) rfl
    (by
      rintro s rfl
      unfold F_X10_upFrom_2
      rw [show j - (j - r) = r by omega, s10_g38 h.1.1, Option.bind_some, s10_r38 h.1.1 (by omega), Option.bind_some, Option.bind_some, s10_r38 h.1.1 (by omega), Option.bind_some, ed, er]
      have hlt : nI dd - 1 < nI dd := by
        rw [← hdr]
        have h3d := h3.d60
        cases dd with
        | zero => exact absurd hdr (fun z => absurd (show nI d2 < 0 by rw [z]; decide) (nI_pos (by omega)))
        | succ d =>
          rw [nI_pred] at hdr
          rw [hdr]
          exact nI_lt (by omega) (by omega)
      rw [if_pos hlt]
      exact ⟨_, rfl, rfl⟩)
    (by
      rintro k s hk rfl
      have hq : j - k < (linesT A).length := by omega
      obtain ⟨q, hq2⟩ : ∃ q, j - k = q + 1 := ⟨j - k - 1, by omega⟩
      have hlk : ∃ dq, cI (S.2 (m + 26)) (j - k) = nI dq ∧ dd ≤ dq ∧ dq ≤ 60 := by
        by_cases z : k = 0
        · subst z
          exact ⟨dd, ed, Nat.le_refl _, h60⟩
        · have hg : (linesT A)[j - k + 1]? = some ((linesT A)[j - k + 1]'(by omega)) := List.getElem?_eq_getElem _
          obtain ⟨dq, a1, a2, a3⟩ := hl.mid (j - k + 1) _ (by omega) (by omega) hg
          exact ⟨dq, by rw [(hL.2 (j - k) _ hg).2.1, a1], a2, a3⟩
      obtain ⟨dq, a1, a2, a3⟩ := hlk
      unfold F_X10_upFrom_2
      rw [s10_g38 h.1.1, Option.bind_some, s10_r38 h.1.1 (by omega), Option.bind_some, Option.bind_some, s10_r38 h.1.1 (by omega), Option.bind_some, ed, a1, if_neg (nI_nlt (by omega) (by omega))]
      refine ⟨_, rfl, ?_⟩
      show nI (j - k) + (-1 : Int32) = nI (j - (k + 1))
      rw [show j - k = (j - (k + 1)) + 1 by omega]
      exact nI_m1 _)
  rw [s10_oF h.1.1, e, Option.bind_some, hx]
theorem LM_fr {S1 : pS} {m : Nat} {acc : List Rw} {L ks : List Nat} (h : LM S m acc) (hM : MR S S1 m L ks) (hL : ∀ j, j ∈ L → j ≠ 25 ∧ j ≠ 26 ∧ j ≠ 27 ∧ j ≠ 28) (hk : 41 ∉ ks) : LM S1 m acc := by
  unfold LM
  rw [hM.2.2.2.2 41 hk, hM.2.2.2.1 25 (fun z => (hL _ z).1 rfl) (by decide), hM.2.2.2.1 26 (fun z => (hL _ z).2.1 rfl) (by decide), hM.2.2.2.1 27 (fun z => (hL _ z).2.2.1 rfl) (by decide), hM.2.2.2.1 28 (fun z => (hL _ z).2.2.2 rfl) (by decide)]
  exact h
theorem r_way (hA : aOk A) (l3 : Int32) : ∀ dd j r row rw', LnR A j row r rw' dd → ∀ S : pS, RS S m A → LM S m (linesT A) → ∃ S' x, Run (F_X10_writes_12 m l3) (nI j, nI dd, S) (x, (-1 : Int32), S') (dd + 1) ∧ MR S S' m [31] [] ∧ (∀ (i c : Nat), (upW (linesT A) (dd + 1) (j + 1))[i]? = some c → cI (S'.2 (m + 31)) i = nI c) ∧ ∀ i, dd < i → cI (S'.2 (m + 31)) i = cI (S.2 (m + 31)) i := by
  have hp := lines_pos A hA
  intro dd
  induction dd with
  | zero =>
    intro j r row rw' h S hS hL
    obtain ⟨a1, a2, a3⟩ := LnR_abv hA h
    have hlt := LnR_lt h
    have hr := hL.2 j row h.at_
    have m1 := MR_I (MR_refl hS.1.1 [31] []) (j := 31) (by decide) (by decide) (by decide) 0 (nI row.1)
    have v1 := s10_v44 hS.1.1 0 (nI row.1)
    refine ⟨_, nI j, Run_1 ?_, m1, fun i c hi => ?_, fun i hi => ?_⟩
    · unfold F_X10_writes_12
      dsimp only
      have e1 : oSI S (m + 31) .int (nI 0) (nI row.1) = some (wI S (m + 31) 0 (nI row.1)) := s10_w44 hS.1.1 (i := 0) (by decide) _
      rw [if_neg (by decide), s10_g44 hS.1.1, Option.bind_some, s10_g37 hS.1.1, Option.bind_some, s10_r37 hS.1.1 (by omega), Option.bind_some, hr.1, e1, Option.bind_some, if_pos (by decide)]
      rfl
    · have hi' : (([] : List Nat) ++ [itR (linesT A) (j + 1)])[i]? = some c := hi
      rw [a2, List.nil_append] at hi'
      have hi2 := (List.getElem?_eq_some_iff.mp hi').1
      rw [List.length_singleton] at hi2
      have : i = 0 := by omega
      subst this
      have : row.1 = c := by simpa using hi'
      rw [v1, pu_at, this]
    · rw [v1, pu_ne _ _ _ (by omega)]
  | succ dd ih =>
    intro j r row rw' h S hS hL
    obtain ⟨a1, a2, a3⟩ := LnR_abv hA h
    have hlt := LnR_lt h
    have h60 := h.d60
    have hr := hL.2 j row h.at_
    obtain ⟨j', r', rw2, rfl, hj', h'⟩ := LnR_up hA h
    have m1 := MR_I (MR_refl hS.1.1 [31] []) (j := 31) (by decide) (by decide) (by decide) (dd + 1) (nI row.1)
    have v1 := s10_v44 hS.1.1 (dd + 1) (nI row.1)
    have e1 : oSI S (m + 31) .int (nI (dd + 1)) (nI row.1) = some (wI S (m + 31) (dd + 1) (nI row.1)) := s10_w44 hS.1.1 (by omega) _
    generalize wI S (m + 31) (dd + 1) (nI row.1) = S1 at *
    have h1 := RS_fr hS m1 (by decide) (by decide) (by decide)
    have L1 := LM_fr hL m1 (by decide) (by decide)
    obtain ⟨S', x, run, m2, g2, o2⟩ := ih j' r' rw' rw2 h' S1 h1 L1
    have st : F_X10_writes_12 m l3 (nI j, nI (dd + 1), S) = some (.inl (nI j', nI dd, S1)) := by
      unfold F_X10_writes_12
      dsimp only
      rw [if_neg (nI_pos (by omega)), s10_g44 hS.1.1, Option.bind_some, s10_g37 hS.1.1, Option.bind_some, s10_r37 hS.1.1 (by omega), Option.bind_some, hr.1, e1, Option.bind_some, if_neg (nI_s0 (by omega)), r_upFrom h1 hA L1 h, Option.bind_some]
      have : nI (dd + 1) + (-1 : Int32) = nI dd := nI_m1 dd
      rw [this]
    have rn := Run_t (Run_1 st) run
    rw [show 1 + (dd + 1) = dd + 1 + 1 by omega] at rn
    refine ⟨S', x, rn, MR_trans m1 m2, fun i c hi => ?_, fun i hi => ?_⟩
    · have hi' : (upW (linesT A) (dd + 1) (abvR (linesT A) (j + 1)) ++ [itR (linesT A) (j + 1)])[i]? = some c := hi
      rw [a1, a2] at hi'
      have hl := upW_len (linesT A) (dd + 1) (j' + 1)
      by_cases z : i < dd + 1
      · rw [List.getElem?_append_left (by omega)] at hi'
        exact g2 i c hi'
      · have hi2 := (List.getElem?_eq_some_iff.mp hi').1
        rw [List.length_append, List.length_singleton] at hi2
        have : i = dd + 1 := by omega
        subst this
        rw [List.getElem?_append_right (by omega), hl, Nat.sub_self] at hi'
        have : row.1 = c := by simpa using hi'
        rw [o2 _ (by omega), v1, pu_at, this]
    · rw [o2 i (by omega), v1, pu_ne _ _ _ (by omega)]
theorem r_writes (h : RS S m A) (hA : aOk A) (hL : LM S m (linesT A)) {j : Nat} (hj : j + 1 < (linesT A).length) : ∃ S', F_X10_writes S m (nI j) = some (nI ((pthX A j).length - 1), S') ∧ RS S' m A ∧ MR S S' m [31, 32] [] ∧ ∀ (e : Nat) x, e + 1 < (pthX A j).length → (pthX A j)[e]? = some x → cI (S'.2 (m + 32)) e = x := by
  have hp := lines_pos A hA
  obtain ⟨row, r, rw', dd, hl, -⟩ := line_row hA hj
  have h60 := hl.d60
  have hr := hL.2 j row hl.at_
  have hwb := upW_bd hA dd j r row rw' hl
  have ed : pthX A j = txtW (aT A) (upW (linesT A) (dd + 1) (j + 1)) := by
    unfold pthX
    rw [(LnR_abv hA hl).2.2]
  have hWl := upW_len (linesT A) (dd + 1) (j + 1)
  obtain ⟨S1, x1, run, m1, g1, -⟩ := r_way hA (nI dd) dd j r row rw' hl S h hL
  have h1 := RS_fr h m1 (by decide) (by decide) (by decide)
  rw [ed]
  have ex : F_X10_writes_12 m (nI dd) (x1, (-1 : Int32), S1) = some (.inr S1) := by
    unfold F_X10_writes_12
    dsimp only
    rw [if_pos (by decide)]
  unfold F_X10_writes
  rw [s10_oF h.1.1, s10_g38 h.1.1, Option.bind_some, s10_r38 h.1.1 (by omega), Option.bind_some, hr.2.1, hl.dp, Run_end run (by omega) ex, Option.bind_some]
  generalize hW : upW (linesT A) (dd + 1) (j + 1) = W at *
  have hbd := txt_bd hA (fun i hi => (hwb i hi).1)
  have hpos : ∀ k, k ≤ dd → (txtW (aT A) (W.take (k + 1))).length = (txtW (aT A) (W.take k)).length + ((tName (aT A) (W.getD k 0)).length + 1) ∧ tPres (aT A) (W.getD k 0) = true ∧ (W.getD k 0) < 61 ∧ W[k]? = some (W.getD k 0) := by
    intro k hk
    have e : W[k]? = some (W.getD k 0) := by
      rw [List.getD_eq_getElem?_getD, List.getElem?_eq_getElem (show k < W.length by omega)]; rfl
    have e2 : W.take (k + 1) = W.take k ++ [W.getD k 0] := by rw [List.take_add_one, e]; rfl
    rw [e2, txt_snoc, List.length_append, List.length_append, List.length_singleton]
    have := hwb _ (List.mem_of_getElem? e)
    exact ⟨rfl, this.1, this.2, e⟩
  have hpl : ∀ k, (txtW (aT A) (W.take k)).length ≤ (txtW (aT A) W).length := fun k => (txt_pre (aT A) W k).length_le
  obtain ⟨res, e2, f1, f2, f3⟩ := iter_fu (F := F_X10_writes_57 m (nI dd)) (s := ((0 : Int32), (0 : Int32), S1)) (fun k s => s.1 = nI ((txtW (aT A) (W.take k)).length - 1) ∧ s.2.1 = nI k ∧ MR S s.2.2 m [31, 32] [] ∧ (∀ (i c : Nat), W[i]? = some c → cI (s.2.2.2 (m + 31)) i = nI c) ∧ ∀ (e : Nat) x, e < (txtW (aT A) (W.take k)).length - 1 → (txtW (aT A) W)[e]? = some x → cI (s.2.2.2 (m + 32)) e = x)
    (P := fun s => s.1 = nI ((txtW (aT A) W).length - 1) ∧ MR S s.2 m [31, 32] [] ∧ ∀ (e : Nat) x, e < (txtW (aT A) W).length - 1 → (txtW (aT A) W)[e]? = some x → cI (s.2.2 (m + 32)) e = x) (dd + 1) (by omega) ⟨rfl, rfl, MR_sub m1 (by decide) (by decide), g1, fun e x he => by
      have he' : e < 0 := he
      omega⟩
    (by
      rintro ⟨z, y, S2⟩ ⟨h2, h3, h4, h5, h6⟩
      dsimp only at h2 h3 h4 h5 h6
      subst h2 h3
      unfold F_X10_writes_57
      dsimp only
      rw [if_pos (nI_lt (by omega) (by omega))]
      rw [List.take_of_length_le (show W.length ≤ dd + 1 by omega)] at h6 ⊢
      exact ⟨_, rfl, rfl, h4, h6⟩)
    (by
      rintro k ⟨z, y, S2⟩ hk ⟨h2, h3, h4, h5, h6⟩
      dsimp only at h2 h3 h4 h5 h6
      subst h2 h3
      obtain ⟨p1, p2, p3, p4⟩ := hpos k (by omega)
      have hpk := hpl (k + 1)
      have hpk0 := hpl k
      have h10 := (hA.1.1.2.2.2.2.1 _ p2).1
      have r2 : RS S2 m A := RS_fr h h4 (by decide) (by decide) (by decide)
      -- the letters
      have inner : ∀ S3 : pS, MR S S3 m [31, 32] [] → (∀ (i c : Nat), W[i]? = some c → cI (S3.2 (m + 31)) i = nI c) → (∀ (e : Nat) x, e < (txtW (aT A) (W.take k)).length → (txtW (aT A) W)[e]? = some x → cI (S3.2 (m + 32)) e = x) → ∃ S', F_X10_writes_80 m (nI dd) S3 (nI (txtW (aT A) (W.take k)).length) (nI k) = some (.inl (nI ((txtW (aT A) (W.take (k + 1))).length - 1), nI (k + 1), S')) ∧ MR S S' m [31, 32] [] ∧ (∀ (i c : Nat), W[i]? = some c → cI (S'.2 (m + 31)) i = nI c) ∧ ∀ (e : Nat) x, e < (txtW (aT A) (W.take (k + 1))).length - 1 → (txtW (aT A) W)[e]? = some x → cI (S'.2 (m + 32)) e = x := by
        intro S3 m3 w3 c3
        unfold F_X10_writes_80
        obtain ⟨res, e3, q1, q2, q3, q4⟩ := iter_fu (F := F_X10_writes_83 m (nI dd) (nI k)) (s := (nI (txtW (aT A) (W.take k)).length, (0 : Int32), S3)) (fun t s => s.1 = nI ((txtW (aT A) (W.take k)).length + t) ∧ s.2.1 = nI t ∧ MR S s.2.2 m [31, 32] [] ∧ (∀ (i c : Nat), W[i]? = some c → cI (s.2.2.2 (m + 31)) i = nI c) ∧ ∀ (e : Nat) x, e < (txtW (aT A) (W.take k)).length + t → (txtW (aT A) W)[e]? = some x → cI (s.2.2.2 (m + 32)) e = x)
          (P := fun s => s.1 = nI ((txtW (aT A) (W.take k)).length + (tName (aT A) (W.getD k 0)).length) ∧ MR S s.2 m [31, 32] [] ∧ (∀ (i c : Nat), W[i]? = some c → cI (s.2.2 (m + 31)) i = nI c) ∧ ∀ (e : Nat) x, e < (txtW (aT A) (W.take k)).length + (tName (aT A) (W.getD k 0)).length → (txtW (aT A) W)[e]? = some x → cI (s.2.2 (m + 32)) e = x) (tName (aT A) (W.getD k 0)).length (by omega) ⟨rfl, rfl, m3, w3, c3⟩
          (by
            rintro ⟨z, y, S4⟩ ⟨i1, i2, i3, i4, i5⟩
            dsimp only at i1 i2 i3 i4 i5
            subst i1 i2
            have r4 : RS S4 m A := RS_fr h i3 (by decide) (by decide) (by decide)
            unfold F_X10_writes_83
            dsimp only
            rw [s10_g1 r4.1.1, Option.bind_some, s10_g44 r4.1.1, Option.bind_some, s10_r44 r4.1.1 (by omega), Option.bind_some, i4 k _ p4, li_245, nI_add, s10_r1 r4.1.1 (by omega), Option.bind_some, (r4.1.2.2.2 _ p2).2.2.2.1, if_pos (nI_le (Nat.le_refl _) (by omega))]
            exact ⟨_, rfl, rfl, i3, i4, i5⟩)
          (by
            rintro t ⟨z, y, S4⟩ ht ⟨i1, i2, i3, i4, i5⟩
            dsimp only at i1 i2 i3 i4 i5
            subst i1 i2
            have r4 : RS S4 m A := RS_fr h i3 (by decide) (by decide) (by decide)
            have hx := getD_some ht
            unfold F_X10_writes_83
            dsimp only
            rw [s10_g1 r4.1.1, Option.bind_some, s10_g44 r4.1.1, Option.bind_some, s10_r44 r4.1.1 (by omega), Option.bind_some, i4 k _ p4, li_245, nI_add, s10_r1 r4.1.1 (by omega), Option.bind_some, (r4.1.2.2.2 _ p2).2.2.2.1, if_neg (nI_ge ht (by omega)), s10_g45 r4.1.1, Option.bind_some, Option.bind_some, Option.bind_some, s10_r44 r4.1.1 (by omega), Option.bind_some, i4 k _ p4, li_306, li_10, pk_mul, nI_add, nI_add, s10_r1 r4.1.1 (by omega), Option.bind_some, show 306 + 10 * (W.getD k 0) + t = 306 + (10 * (W.getD k 0) + t) by omega, (r4.1.2.2.2 _ p2).2.2.2.2.1 t _ hx, s10_w45 r4.1.1 (by omega), Option.bind_some, nI_1, nI_1]
            have v5 := s10_v45 r4.1.1 ((txtW (aT A) (W.take k)).length + t) ((tName (aT A) (W.getD k 0)).getD t 0)
            refine ⟨_, rfl, rfl, rfl, MR_I i3 (by decide) (by decide) (by decide) _ _, fun i c hi => ?_, fun e x he hx2 => ?_⟩
            · dsimp only
              rw [wI_ne _ _ _ (show m + 31 ≠ m + 32 by omega)]
              exact i4 i c hi
            · dsimp only
              rw [v5]
              by_cases q : e = (txtW (aT A) (W.take k)).length + t
              · rw [q, pu_at]
                have e2 : W.take (k + 1) = W.take k ++ [W.getD k 0] := by rw [List.take_add_one, p4]; rfl
                have hpre : (txtW (aT A) (W.take (k + 1)))[e]? = some ((tName (aT A) (W.getD k 0)).getD t 0) := by
                  rw [e2, txt_snoc, List.getElem?_append_right (by omega), List.getElem?_append_left (by omega), show e - (txtW (aT A) (W.take k)).length = t by omega]
                  exact hx
                have h7 := pre_get (txt_pre (aT A) W (k + 1)) hpre
                rw [hx2] at h7
                cases h7
                rfl
              · rw [pu_ne _ _ _ q]
                exact i5 e x (by omega) hx2)
        obtain ⟨w, S5⟩ := res
        dsimp only at q1 q2 q3 q4
        subst q1
        rw [e3, Option.bind_some, nI_1]
        rw [show (txtW (aT A) (W.take (k + 1))).length - 1 = (txtW (aT A) (W.take k)).length + (tName (aT A) (W.getD k 0)).length by omega]
        exact ⟨S5, rfl, q2, q3, q4⟩
      unfold F_X10_writes_57
      dsimp only
      rw [if_neg (nI_nlt (by omega) (by omega))]
      cases k with
      | zero =>
        rw [if_pos (by decide)]
        obtain ⟨S', e4, q1, q2, q3⟩ := inner S2 h4 h5 (fun e x he => by
          have he' : e < 0 := he
          omega)
        exact ⟨_, e4, rfl, rfl, q1, q2, q3⟩
      | succ k =>
        have hne : W.take (k + 1) ≠ [] := fun z => by
          have := congrArg List.length z
          rw [List.length_take] at this
          have h0 : ([] : List Nat).length = 0 := rfl
          omega
        have htl := txt_last (aT A) hne
        obtain ⟨N, hN⟩ : ∃ N, (txtW (aT A) (W.take (k + 1))).length = N + 1 := ⟨(txtW (aT A) (W.take (k + 1))).length - 1, by omega⟩
        have v5 := s10_v45 r2.1.1 N 47
        have m5 := MR_I h4 (j := 32) (by decide) (by decide) (by decide) N 47
        rw [if_neg (nI_s0 (by omega)), s10_g45 r2.1.1, Option.bind_some, hN, Nat.add_sub_cancel, s10_w45 r2.1.1 (by omega), Option.bind_some, nI_1]
        obtain ⟨S', e4, q1, q2, q3⟩ := inner (wI S2 (m + 32) N 47) m5 (fun i c hi => by
          rw [wI_ne _ _ _ (show m + 31 ≠ m + 32 by omega)]
          exact h5 i c hi) (fun e x he hx => by
          rw [v5]
          by_cases q : e = N
          · rw [q, pu_at]
            have h8 := htl.2
            rw [hN, Nat.add_sub_cancel] at h8
            have h7 := pre_get (txt_pre (aT A) W (k + 1)) h8
            rw [q, h7] at hx
            cases hx
            rfl
          · rw [pu_ne _ _ _ q]
            exact h6 e x (by omega) hx)
        rw [hN] at e4
        exact ⟨_, e4, rfl, rfl, q1, q2, q3⟩)
  obtain ⟨w, S5⟩ := res
  dsimp only at f1 f2 f3
  subst f1
  rw [e2, Option.bind_some]
  exact ⟨S5, rfl, RS_fr h f2 (by decide) (by decide) (by decide), f2, fun e x he hx => f3 e x (by omega) hx⟩
end RPT
