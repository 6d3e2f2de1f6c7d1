/-! the path of a line -/
section PTX
variable {T : Tr}
def txtW (T : Tr) (l : List Nat) : List Int32 := l.flatMap fun i => tName T i ++ [47]
theorem txt_snoc (T : Tr) (l : List Nat) (i : Nat) : txtW T (l ++ [i]) = txtW T l ++ (tName T i ++ [47]) := by
  unfold txtW
  rw [List.flatMap_append]
  simp
theorem txt_last (T : Tr) {l : List Nat} (h : l ≠ []) : 0 < (txtW T l).length ∧ (txtW T l)[(txtW T l).length - 1]? = some 47 := by
  obtain ⟨l', i, rfl⟩ : ∃ l' i, l = l' ++ [i] := ⟨l.dropLast, l.getLast h, (List.dropLast_concat_getLast h).symm⟩
  rw [txt_snoc]
  have e : (txtW T l' ++ (tName T i ++ [47])).length = (txtW T l' ++ tName T i).length + 1 := by
    rw [← List.append_assoc, List.length_append, List.length_singleton]
  refine ⟨by omega, ?_⟩
  rw [e, Nat.add_sub_cancel, ← List.append_assoc, List.getElem?_append_right (Nat.le_refl _), Nat.sub_self]
  rfl
theorem txt_len (T : Tr) (l : List Nat) : (txtW T l).length = (l.map fun i => (tName T i).length).sum + l.length := by
  unfold txtW
  induction l with
  | nil => rfl
  | cons a l ih =>
    simp only [List.flatMap_cons, List.length_append, List.length_cons, List.length_nil, List.map_cons, List.sum_cons] at ih ⊢
    omega
theorem txt_pre (T : Tr) (l : List Nat) (k : Nat) : txtW T (l.take k) <+: txtW T l := by
  have : txtW T l = txtW T (l.take k) ++ txtW T (l.drop k) := by
    unfold txtW
    rw [← List.flatMap_append, List.take_append_drop]
  rw [this]
  exact List.prefix_append _ _
def abvR (L : List Rw) (j : Nat) : Nat := (L.getD j (0, 0, 0, 0)).2.1.toNatClampNeg
def itR (L : List Rw) (j : Nat) : Nat := (L.getD j (0, 0, 0, 0)).1
def upW (L : List Rw) : Nat → Nat → List Nat
  | 0, _ => []
  | n + 1, j => upW L n (abvR L j) ++ [itR L j]
theorem upW_len (L : List Rw) : ∀ n j, (upW L n j).length = n := by
  intro n
  induction n with
  | zero => intro j; rfl
  | succ n ih => intro j; show (upW L n (abvR L j) ++ [itR L j]).length = _; rw [List.length_append, ih]; rfl
def dpR (L : List Rw) (j : Nat) : Nat := (L.getD (j + 1) (0, 0, 0, 0)).2.2.2.toNatClampNeg
def pthX (A : As) (j : Nat) : List Int32 := txtW (aT A) (upW (linesT A) (dpR (linesT A) j + 1) (j + 1))
end PTX
theorem nI_m1 (n : Nat) : nI (n + 1) + (-1 : Int32) = nI n := by rw [← Int32.sub_eq_add_neg, nI_pred]
theorem nI_s0 {n : Nat} (h : n + 1 < 2 ^ 31) : ¬ nI (n + 1) ≤ (0 : Int32) := nI_ge (a := 0) (b := n + 1) (Nat.succ_pos n) h
section PTH
variable {S : pS} {b m t : Nat} {A : As}
theorem LnR_lt {j r dd : Nat} {row rw' : Rw} (h : LnR A j row r rw' dd) : j + 1 < (linesT A).length := (List.getElem?_eq_some_iff.mp h.at_).1
theorem LnR_get {j r dd : Nat} {row rw' : Rw} (h : LnR A j row r rw' dd) : (linesT A).getD (j + 1) (0, 0, 0, 0) = row := by
  rw [List.getD_eq_getElem?_getD, h.at_]; rfl
theorem LnR_abv (hA : aOk A) {j r dd : Nat} {row rw' : Rw} (h : LnR A j row r rw' dd) : abvR (linesT A) (j + 1) = r ∧ itR (linesT A) (j + 1) = row.1 ∧ dpR (linesT A) j = dd := by
  have hl := lines_pos A hA
  have h1 := LnR_lt h
  have h2 := h.le
  have h6 := h.d60
  unfold abvR itR dpR
  rw [LnR_get h, h.ab, h.dp]
  exact ⟨nI_clamp (by omega), rfl, nI_clamp (by omega)⟩
theorem LnR_it (hA : aOk A) {j r dd : Nat} {row rw' : Rw} (h : LnR A j row r rw' dd) : tPres (aT A) row.1 = true ∧ row.1 ≠ 0 ∧ row.1 < 61 := by
  have hk := tOk_kid hA.1.1 h.pr (List.mem_of_getElem? h.kid)
  exact ⟨hk.1, hk.2.1, hk.2.2.2⟩
theorem LnR_up (hA : aOk A) {j r dd : Nat} {row rw' : Rw} (h : LnR A j row r rw' (dd + 1)) : ∃ j' r' rw2, r = j' + 1 ∧ j' < j ∧ LnR A j' rw' r' rw2 dd := by
  have hl := lines_pos A hA
  have h1 := LnR_lt h
  have h2 := h.le
  have h6 := h.d60
  have hd := h.dr
  rw [nI_pred] at hd
  cases r with
  | zero =>
    have e := (lines_RI hA).2
    rw [h.up] at e
    cases e
    have hd' : nI 0 - 1 = nI dd := hd
    exact absurd hd' (by
      intro z
      exact absurd (show nI dd < 0 by rw [← z]; decide) (nI_pos (by omega)))
  | succ j' =>
    obtain ⟨row2, r2, rw2, d2, h3, -⟩ := line_row hA (show j' + 1 < (linesT A).length by omega)
    have e := h.up
    rw [h3.at_] at e
    cases e
    have : d2 = dd := (nI_eq (by have := h3.d60; omega) (by omega)).mp (h3.dp.symm.trans hd)
    subst this
    exact ⟨j', r2, rw2, rfl, by omega, h3⟩
/-! the class -/
theorem c_depthOf (hL : LR S b (linesT A)) (hA : aOk A) {j r dd : Nat} {row rw' : Rw} (h : LnR A j row r rw' dd) : F_X5_depthOf S b (nI j) = some (nI dd) := by
  have hl := lines_pos A hA
  have h1 := LnR_lt h
  unfold F_X5_depthOf
  rw [s5_oF hL.1, s5_g3 hL.1, Option.bind_some, nI_1, s5_r3 hL.1 (by omega), Option.bind_some, (hL.2.2 _ _ h.at_).2.2.2, h.dp]
theorem c_pathLen (hL : LR S b (linesT A)) (hA : aOk A) (hT : TR S t (aT A)) {j : Nat} (hj : j + 1 < (linesT A).length) : F_X5_pathLength S b t (nI j) = some (nI ((pthX A j).length - 1)) := by
  have hl := lines_pos A hA
  have run : ∀ dd j r row rw', LnR A j row r rw' dd → ∀ a : Nat, ∃ x, Run (F_X5_pathLength_18 b t S) (nI a, nI (j + 1), nI dd) (nI (a + ((upW (linesT A) (dd + 1) (j + 1)).map fun i => (tName (aT A) i).length).sum), x, (-1 : Int32)) (dd + 1) := by
    intro dd
    induction dd with
    | zero =>
      intro j r row rw' h a
      obtain ⟨a1, a2, a3⟩ := LnR_abv hA h
      have hit := LnR_it hA h
      have hlt := LnR_lt h
      have hr := hL.2.2 _ _ h.at_
      refine ⟨nI r, Run_1 ?_⟩
      unfold F_X5_pathLength_18
      dsimp only
      rw [if_neg (by decide), s5_g0 hL.1, Option.bind_some, s5_r0 hL.1 (by omega), Option.bind_some, hr.1, c_nameLen hT hit.2.2 hit.1, Option.bind_some, s5_g1 hL.1, Option.bind_some, s5_r1 hL.1 (by omega), Option.bind_some, hr.2.1, h.ab, nI_add]
      show some (Sum.inl (nI (a + (tName (aT A) row.1).length), nI r, (-1 : Int32))) = some (Sum.inl (nI (a + ((([] : List Nat) ++ [itR (linesT A) (j + 1)]).map fun i => (tName (aT A) i).length).sum), nI r, (-1 : Int32)))
      rw [a2, List.nil_append, List.map_singleton, List.sum_singleton]
    | succ dd ih =>
      intro j r row rw' h a
      obtain ⟨a1, a2, a3⟩ := LnR_abv hA h
      have hit := LnR_it hA h
      have hlt := LnR_lt h
      have hr := hL.2.2 _ _ h.at_
      obtain ⟨j', r', rw2, rfl, hj', h'⟩ := LnR_up hA h
      obtain ⟨x, hx⟩ := ih j' r' rw' rw2 h' (a + (tName (aT A) row.1).length)
      refine ⟨x, ?_⟩
      have h60 := h.d60
      have st : F_X5_pathLength_18 b t S (nI a, nI (j + 1), nI (dd + 1)) = some (.inl (nI (a + (tName (aT A) row.1).length), nI (j' + 1), nI dd)) := by
        unfold F_X5_pathLength_18
        dsimp only
        rw [if_neg (nI_pos (by omega)), s5_g0 hL.1, Option.bind_some, s5_r0 hL.1 (by omega), Option.bind_some, hr.1, c_nameLen hT hit.2.2 hit.1, Option.bind_some, s5_g1 hL.1, Option.bind_some, s5_r1 hL.1 (by omega), Option.bind_some, hr.2.1, h.ab, nI_add]
        have : nI (dd + 1) + (-1 : Int32) = nI dd := nI_m1 dd
        rw [this]
      have := Run_t (Run_1 st) hx
      rw [show 1 + (dd + 1) = dd + 1 + 1 by omega] at this
      have eu : upW (linesT A) (dd + 1 + 1) (j + 1) = upW (linesT A) (dd + 1) (j' + 1) ++ [row.1] := by
        show upW (linesT A) (dd + 1) (abvR (linesT A) (j + 1)) ++ [itR (linesT A) (j + 1)] = _
        rw [a1, a2]
      rw [eu, List.map_append, List.sum_append, List.map_singleton, List.sum_singleton]
      rw [show a + ((List.map (fun i => (tName (aT A) i).length) (upW (linesT A) (dd + 1) (j' + 1))).sum + (tName (aT A) row.1).length) = a + (tName (aT A) row.1).length + (List.map (fun i => (tName (aT A) i).length) (upW (linesT A) (dd + 1) (j' + 1))).sum by omega]
      exact this
  obtain ⟨row, r, rw', dd, h, -⟩ := line_row hA hj
  obtain ⟨x, hx⟩ := run dd j r row rw' h dd
  have h60 := h.d60
  unfold F_X5_pathLength
  rw [s5_oF hL.1, c_depthOf hL hA h, Option.bind_some, Option.bind_some, nI_1]
  have ex : F_X5_pathLength_18 b t S (nI (dd + ((upW (linesT A) (dd + 1) (j + 1)).map fun i => (tName (aT A) i).length).sum), x, (-1 : Int32)) = some (.inr (nI (dd + ((upW (linesT A) (dd + 1) (j + 1)).map fun i => (tName (aT A) i).length).sum))) := by
    unfold F_X5_pathLength_18
    dsimp only
    rw [if_pos (by decide)]
  rw [Run_end hx (by omega) ex, Option.bind_some]
  unfold pthX
  rw [(LnR_abv hA h).2.2, txt_len, upW_len]
  rw [show (List.map (fun i => (tName (aT A) i).length) (upW (linesT A) (dd + 1) (j + 1))).sum + (dd + 1) - 1 = dd + (List.map (fun i => (tName (aT A) i).length) (upW (linesT A) (dd + 1) (j + 1))).sum by omega]
theorem upW_bd (hA : aOk A) : ∀ dd j r row rw', LnR A j row r rw' dd → ∀ i, i ∈ upW (linesT A) (dd + 1) (j + 1) → tPres (aT A) i = true ∧ i < 61 := by
  intro dd
  induction dd with
  | zero =>
    intro j r row rw' h i hi
    obtain ⟨a1, a2, a3⟩ := LnR_abv hA h
    have hi' : i ∈ ([] : List Nat) ++ [itR (linesT A) (j + 1)] := hi
    rw [a2, List.nil_append, List.mem_singleton] at hi'
    subst hi'
    exact ⟨(LnR_it hA h).1, (LnR_it hA h).2.2⟩
  | succ dd ih =>
    intro j r row rw' h i hi
    obtain ⟨a1, a2, a3⟩ := LnR_abv hA h
    obtain ⟨j', r', rw2, rfl, hj', h'⟩ := LnR_up hA h
    have hi' : i ∈ upW (linesT A) (dd + 1) (abvR (linesT A) (j + 1)) ++ [itR (linesT A) (j + 1)] := hi
    rw [a1, a2] at hi'
    rcases List.mem_append.mp hi' with z | z
    · exact ih j' r' rw' rw2 h' i z
    · rw [List.mem_singleton] at z
      subst z
      exact ⟨(LnR_it hA h).1, (LnR_it hA h).2.2⟩
theorem txt_bd (hA : aOk A) {l : List Nat} (h : ∀ i, i ∈ l → tPres (aT A) i = true) : (txtW (aT A) l).length ≤ 11 * l.length := by
  unfold txtW
  induction l with
  | nil => exact Nat.zero_le _
  | cons a l ih =>
    have := ih (fun i hi => h i (List.mem_cons_of_mem _ hi))
    have h10 := (hA.1.1.2.2.2.2.1 a (h a List.mem_cons_self)).1
    simp only [List.flatMap_cons, List.length_append, List.length_cons, List.length_nil] at this ⊢
    omega
theorem txt_ch (hA : aOk A) {l : List Nat} (h : ∀ i, i ∈ l → tPres (aT A) i = true) {x : Int32} (hx : x ∈ txtW (aT A) l) : x = 47 ∨ (97 ≤ x ∧ x ≤ 122) := by
  unfold txtW at hx
  obtain ⟨i, hi, h2⟩ := List.mem_flatMap.mp hx
  rcases List.mem_append.mp h2 with z | z
  · exact Or.inr ((hA.1.1.2.2.2.2.1 i (h i hi)).2 x z)
  · exact Or.inl (List.mem_singleton.mp z)
theorem ch_path {x : Int32} (h : x = 47 ∨ (97 ≤ x ∧ x ≤ 122)) : (x.toUInt32 % 65536).toInt32 = x ∧ oC x = some x := by
  rcases h with rfl | h
  · exact ⟨by decide, rfl⟩
  · exact ⟨char_narrow h, oC_ok h⟩
theorem c_pathSign (hL : LR S b (linesT A)) (hA : aOk A) (hT : TR S t (aT A)) {j e : Nat} (hj : j + 1 < (linesT A).length) (he : e + 1 < (pthX A j).length) : F_X5_pathSign S b t (nI j) (nI e) = some ((pthX A j).getD e 0) := by
  have hl := lines_pos A hA
  have key : ∀ dd j r row rw', LnR A j row r rw' dd → e + 1 < (txtW (aT A) (upW (linesT A) (dd + 1) (j + 1))).length → ∃ k s' res, k ≤ dd ∧ Run (F_X5_pathSign_22 b t (nI e) S) (nI (txtW (aT A) (upW (linesT A) (dd + 1) (j + 1))).length, nI (j + 1), nI dd) s' k ∧ F_X5_pathSign_22 b t (nI e) S s' = some (.inr res) ∧ ((res = .inr (.inl ()) ∧ (txtW (aT A) (upW (linesT A) (dd + 1) (j + 1)))[e]? = some 47) ∨ ∃ P j2 r2 row2 rw2 d2 x, res = .inl (nI P, nI (j2 + 1)) ∧ LnR A j2 row2 r2 rw2 d2 ∧ P ≤ e ∧ (tName (aT A) row2.1)[e - P]? = some x ∧ (txtW (aT A) (upW (linesT A) (dd + 1) (j + 1)))[e]? = some x) := by
    intro dd
    induction dd with
    | zero =>
      intro j r row rw' h hex
      obtain ⟨a1, a2, a3⟩ := LnR_abv hA h
      have hit := LnR_it hA h
      have hlt := LnR_lt h
      have hr := hL.2.2 _ _ h.at_
      have h10 := (hA.1.1.2.2.2.2.1 row.1 hit.1).1
      have eu : upW (linesT A) (0 + 1) (j + 1) = [] ++ [row.1] := by
        show ([] : List Nat) ++ [itR (linesT A) (j + 1)] = _
        rw [a2]
      rw [eu, txt_snoc] at hex ⊢
      have e0 : txtW (aT A) [] = [] := rfl
      rw [e0, List.nil_append, List.length_append, List.length_singleton] at hex ⊢
      refine ⟨0, _, .inl (nI 0, nI (j + 1)), Nat.le_refl _, Run_0, ?_, Or.inr ⟨0, j, r, row, rw', 0, (tName (aT A) row.1).getD e 0, rfl, h, Nat.zero_le _, getD_some (by omega), ?_⟩⟩
      · unfold F_X5_pathSign_22
        dsimp only
        rw [if_neg (by decide), s5_g0 hL.1, Option.bind_some, s5_r0 hL.1 (by omega), Option.bind_some, hr.1, c_nameLen hT hit.2.2 hit.1, Option.bind_some, nI_1, pk_sub (Nat.le_refl _), Nat.sub_self, if_neg (nI_nlt (by omega) (by omega))]
      · rw [List.getElem?_append_left (by omega)]
        exact getD_some (by omega)
    | succ dd ih =>
      intro j r row rw' h hex
      obtain ⟨a1, a2, a3⟩ := LnR_abv hA h
      have hit := LnR_it hA h
      have hlt := LnR_lt h
      have hr := hL.2.2 _ _ h.at_
      have h60 := h.d60
      have h10 := (hA.1.1.2.2.2.2.1 row.1 hit.1).1
      obtain ⟨j', r', rw2, rfl, hj', h'⟩ := LnR_up hA h
      have eu : upW (linesT A) (dd + 1 + 1) (j + 1) = upW (linesT A) (dd + 1) (j' + 1) ++ [row.1] := by
        show upW (linesT A) (dd + 1) (abvR (linesT A) (j + 1)) ++ [itR (linesT A) (j + 1)] = _
        rw [a1, a2]
      have hne : upW (linesT A) (dd + 1) (j' + 1) ≠ [] := fun z => by
        have := upW_len (linesT A) (dd + 1) (j' + 1)
        rw [z] at this
        cases this
      have htl := txt_last (aT A) hne
      have hbd := txt_bd hA (fun i hi => (upW_bd hA dd j' r' rw' rw2 h' i hi).1)
      rw [upW_len] at hbd
      have ih2 := ih j' r' rw' rw2 h'
      rw [eu, txt_snoc] at hex ⊢
      generalize hX : txtW (aT A) (upW (linesT A) (dd + 1) (j' + 1)) = X at *
      have hlen : (X ++ (tName (aT A) row.1 ++ [47])).length = X.length + ((tName (aT A) row.1).length + 1) := by
        rw [List.length_append, List.length_append, List.length_singleton]
      rw [hlen] at hex ⊢
      have hsub : nI (X.length + ((tName (aT A) row.1).length + 1)) - nI ((tName (aT A) row.1).length + 1) = nI X.length := by
        rw [pk_sub (by omega), Nat.add_sub_cancel]
      obtain ⟨N, hN⟩ : ∃ N, X.length = N + 1 := ⟨X.length - 1, by omega⟩
      have pre : ∀ K : Option ((Int32 × Int32 × Int32) ⊕ ((Int32 × Int32) ⊕ Unit ⊕ Unit)), (if nI e < nI X.length then (if ¬ nI e = nI X.length - 1 then some (.inl (nI X.length, nI (j' + 1), nI dd)) else some (.inr (.inr (.inl ())))) else some (.inr (.inl (nI X.length, nI (j + 1))))) = K → F_X5_pathSign_22 b t (nI e) S (nI (X.length + ((tName (aT A) row.1).length + 1)), nI (j + 1), nI (dd + 1)) = K := by
        rintro K rfl
        unfold F_X5_pathSign_22
        dsimp only
        rw [if_neg (nI_pos (by omega)), s5_g0 hL.1, Option.bind_some, s5_r0 hL.1 (by omega), Option.bind_some, hr.1, c_nameLen hT hit.2.2 hit.1, Option.bind_some, nI_1, hsub, s5_g1 hL.1, Option.bind_some, s5_r1 hL.1 (by omega), Option.bind_some, hr.2.1, h.ab, nI_m1]
      by_cases c : e < X.length
      · by_cases d : e = N
        · subst d
          refine ⟨0, _, _, Nat.zero_le _, Run_0, pre _ ?_, Or.inl ⟨rfl, ?_⟩⟩
          · rw [if_pos (nI_lt c (by omega)), hN, nI_pred, if_neg (fun z => z rfl)]
          · rw [List.getElem?_append_left (by omega)]
            have := htl.2
            rw [hN] at this
            exact this
        · obtain ⟨k, s', res, f0, f1, f2, f3⟩ := ih2 (by omega)
          refine ⟨1 + k, s', res, by omega, Run_t (Run_1 (pre _ ?_)) f1, f2, ?_⟩
          · rw [if_pos (nI_lt c (by omega)), hN, nI_pred, if_pos (fun z => d ((nI_eq (by omega) (by omega)).mp z))]
          · rw [List.getElem?_append_left c]
            exact f3
      · have hg : (tName (aT A) row.1)[e - X.length]? = some ((tName (aT A) row.1).getD (e - X.length) 0) := getD_some (by omega)
        refine ⟨0, _, _, Nat.zero_le _, Run_0, pre _ ?_, Or.inr ⟨X.length, j, _, row, rw', dd + 1, _, rfl, h, by omega, hg, ?_⟩⟩
        · rw [if_neg (nI_nlt (by omega) (by omega))]
        · rw [List.getElem?_append_right (by omega), List.getElem?_append_left (by omega)]
          exact hg
  obtain ⟨row, r, rw', dd, h, -⟩ := line_row hA hj
  have h60 := h.d60
  have ed : pthX A j = txtW (aT A) (upW (linesT A) (dd + 1) (j + 1)) := by
    unfold pthX
    rw [(LnR_abv hA h).2.2]
  have hbd := txt_bd hA (fun i hi => (upW_bd hA dd j r row rw' h i hi).1)
  rw [upW_len] at hbd
  unfold F_X5_pathSign
  rw [s5_oF hL.1, c_pathLen hL hA hT hj, Option.bind_some, c_depthOf hL hA h, Option.bind_some, nI_1, nI_1]
  rw [ed] at he ⊢
  obtain ⟨N, hN⟩ : ∃ N, (txtW (aT A) (upW (linesT A) (dd + 1) (j + 1))).length = N + 1 := ⟨(txtW (aT A) (upW (linesT A) (dd + 1) (j + 1))).length - 1, by omega⟩
  obtain ⟨k, s', res, f0, f1, f2', f2⟩ := key dd j r row rw' h he
  rw [show (txtW (aT A) (upW (linesT A) (dd + 1) (j + 1))).length - 1 + 1 = (txtW (aT A) (upW (linesT A) (dd + 1) (j + 1))).length by omega, Run_end f1 (by omega) f2', Option.bind_some]
  rcases f2 with ⟨rfl, f3⟩ | ⟨P, j2, r2, row2, rw2, d2, x, rfl, f3, f4, f5, f6⟩
  · have : (txtW (aT A) (upW (linesT A) (dd + 1) (j + 1))).getD e 0 = 47 := by rw [List.getD_eq_getElem?_getD, f3]; rfl
    rw [this]
    rfl
  · have : (txtW (aT A) (upW (linesT A) (dd + 1) (j + 1))).getD e 0 = x := by rw [List.getD_eq_getElem?_getD, f6]; rfl
    rw [this]
    have hit := LnR_it hA f3
    have h10 := (hA.1.1.2.2.2.2.1 row2.1 hit.1).1
    have hlt := LnR_lt f3
    have := (List.getElem?_eq_some_iff.mp f5).1
    have hch := (hA.1.1.2.2.2.2.1 row2.1 hit.1).2 x (List.mem_of_getElem? f5)
    simp only [Sum.elim_inl]
    rw [s5_g0 hL.1, Option.bind_some, s5_r0 hL.1 (by omega), Option.bind_some, (hL.2.2 _ _ f3.at_).1, pk_sub f4, c_letter hT hA.1.1 hit.2.2 (by omega) hit.1 f5, Option.bind_some, oC_ok hch, Option.bind_some]
end PTH
