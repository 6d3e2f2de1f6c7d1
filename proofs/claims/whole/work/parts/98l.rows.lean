/-! the rows of the lines hang together -/
section RIS
variable {T : Tr} {sh op : Nat → Bool}
def dpB (dd : Nat) (row : Rw) : Prop := ∃ dq : Nat, row.2.2.2 = nI dq ∧ dd ≤ dq ∧ dq ≤ 60
def RI1 (T : Tr) (acc : List Rw) (j : Nat) (row : Rw) : Prop := ∃ r p ab k' dd, row.2.1 = nI r ∧ r ≤ j ∧ acc[r]? = some (p, ab, k', nI dd - 1) ∧ row.2.2.2 = nI dd ∧ dd ≤ 60 ∧ tPres T p = true ∧ (tKids T p)[row.2.2.1]? = some row.1 ∧ ∀ q rq, r < q → q ≤ j → acc[q]? = some rq → dpB dd rq
def RI (T : Tr) (acc : List Rw) : Prop := ∀ (j : Nat) row, acc[j + 1]? = some row → RI1 T acc j row
theorem RI_push {acc : List Rw} {r p k c dd : Nat} {ab : Int32} {k' : Nat} (h : RI T acc) (hr : acc[r]? = some (p, ab, k', nI dd - 1)) (hd : dd ≤ 60) (hp : tPres T p = true) (hc : (tKids T p)[k]? = some c) (hb : ∀ q rq, r < q → acc[q]? = some rq → dpB dd rq) : RI T (acc ++ [(c, nI r, k, nI dd)]) := by
  have hrl := (List.getElem?_eq_some_iff.mp hr).1
  intro j row hj
  have hj2 := (List.getElem?_eq_some_iff.mp hj).1
  rw [List.length_append, List.length_singleton] at hj2
  by_cases e : j + 1 = acc.length
  · rw [e, List.getElem?_append_right (Nat.le_refl _), Nat.sub_self] at hj
    have hrow : (c, nI r, k, nI dd) = row := by simpa using hj
    subst hrow
    refine ⟨r, p, ab, k', dd, rfl, by omega, ?_, rfl, hd, hp, hc, fun q rq h1 h2 h3 => ?_⟩
    · rw [List.getElem?_append_left hrl]; exact hr
    · rw [List.getElem?_append_left (by omega)] at h3
      exact hb q rq h1 h3
  · rw [List.getElem?_append_left (by omega)] at hj
    obtain ⟨r1, p1, ab1, k1, d1, a1, a2, a3, a4, a5, a6, a7, a8⟩ := h j row hj
    have := (List.getElem?_eq_some_iff.mp a3).1
    refine ⟨r1, p1, ab1, k1, d1, a1, a2, ?_, a4, a5, a6, a7, fun q rq h1 h2 h3 => ?_⟩
    · rw [List.getElem?_append_left this]; exact a3
    · rw [List.getElem?_append_left (by omega)] at h3
      exact a8 q rq h1 h2 h3
theorem wlk_RI (hT : tOk T) : ∀ (n p dd r : Nat) (acc : List Rw) (ab : Int32) (k : Nat), tPres T p = true → RI T acc → acc[r]? = some (p, ab, k, nI dd - 1) → n + dd ≤ 61 → (∀ q rq, r < q → acc[q]? = some rq → dpB dd rq) → RI T (wlk T sh op n p (nI dd) r acc) ∧ ∀ q rq, r < q → (wlk T sh op n p (nI dd) r acc)[q]? = some rq → dpB dd rq := by
  intro n
  induction n with
  | zero => intro p dd r acc ab k hp hI hr hn hb; exact ⟨hI, hb⟩
  | succ n ih =>
    intro p dd r acc ab k hp hI hr hn hb
    have hrl := (List.getElem?_eq_some_iff.mp hr).1
    have key : ∀ k, k ≤ (tKids T p).length → RI T (wlj T sh op n p (nI dd) r acc k) ∧ ∀ q rq, r < q → (wlj T sh op n p (nI dd) r acc k)[q]? = some rq → dpB dd rq := by
      intro k
      induction k with
      | zero => intro _; exact ⟨hI, hb⟩
      | succ k ihk =>
        intro hk
        obtain ⟨h1, h2⟩ := ihk (by omega)
        have hpre := (wlj_len hT sh op (n := n) hp (nI dd) r acc k (by omega)).1
        have e1 : (tKids T p)[k]? = some (tKids T p)[k] := List.getElem?_eq_getElem (by omega)
        have hc := tOk_kid hT hp (List.getElem_mem (show k < (tKids T p).length by omega))
        generalize (tKids T p)[k] = c at *
        rw [wlj_s]
        unfold wst
        rw [getD_of e1]
        have hr2 := pre_get hpre hr
        generalize wlj T sh op n p (nI dd) r acc k = acc2 at *
        have hrl2 := (List.getElem?_eq_some_iff.mp hr2).1
        by_cases q : sh c = true
        · rw [if_pos q]
          have hI2 := RI_push h1 hr2 (by omega) hp e1 h2
          have hb2 : ∀ q rq, r < q → (acc2 ++ [(c, nI r, k, nI dd)])[q]? = some rq → dpB dd rq := by
            intro q rq hq h3
            have hq2 := (List.getElem?_eq_some_iff.mp h3).1
            rw [List.length_append, List.length_singleton] at hq2
            by_cases e : q = acc2.length
            · rw [e, List.getElem?_append_right (Nat.le_refl _), Nat.sub_self] at h3
              have hrow : (c, nI r, k, nI dd) = rq := by simpa using h3
              subst hrow
              exact ⟨dd, rfl, Nat.le_refl _, by omega⟩
            · rw [List.getElem?_append_left (by omega)] at h3
              exact h2 q rq hq h3
          by_cases q2 : op c = true
          · rw [if_pos q2, nI_1]
            obtain ⟨a1, a2⟩ := ih c (dd + 1) acc2.length (acc2 ++ [(c, nI r, k, nI dd)]) (nI r) k hc.1 hI2 (by
              rw [List.getElem?_append_right (Nat.le_refl _), Nat.sub_self, nI_pred]; rfl) (by omega) (fun q rq hq h3 => by
              have hq2 := (List.getElem?_eq_some_iff.mp h3).1
              rw [List.length_append, List.length_singleton] at hq2
              omega)
            refine ⟨a1, fun q rq hq h3 => ?_⟩
            by_cases e : acc2.length < q
            · obtain ⟨dq, b1, b2, b3⟩ := a2 q rq e h3
              exact ⟨dq, b1, by omega, b3⟩
            · have hpre2 := (wlk_len hT sh op n c (nI (dd + 1)) acc2.length (acc2 ++ [(c, nI r, k, nI dd)]) hc.1).1
              have hq3 : q < (acc2 ++ [(c, nI r, k, nI dd)]).length := by rw [List.length_append, List.length_singleton]; omega
              have h4 := pre_get hpre2 (List.getElem?_eq_getElem hq3)
              rw [h3] at h4
              cases h4
              exact hb2 q _ hq (List.getElem?_eq_getElem hq3)
          · rw [if_neg q2]
            exact ⟨hI2, hb2⟩
        · rw [if_neg q]
          exact ⟨h1, h2⟩
    rw [wlj_e]
    exact key _ (Nat.le_refl _)
end RIS
section RIL
variable {A : As}
theorem lines_RI (hA : aOk A) : RI (aT A) (linesT A) ∧ (linesT A)[0]? = some ((topH (aHo A), -1000000, 0, nI 0 - 1) : Rw) := by
  have htp := top_ok hA
  have := wlk_RI (sh := shR (aT A) (aCn A).length (fmT (aT A) (aCn A))) (op := opR (aT A) (aCn A).length) hA.1.1 61 (topH (aHo A)) 0 0 [(topH (aHo A), -1000000, 0, nI 0 - 1)] (-1000000) 0 htp (fun j row hj => by simp at hj) rfl (by omega) (fun q rq hq h3 => by
    have hq2 := (List.getElem?_eq_some_iff.mp h3).1
    rw [List.length_singleton] at hq2
    omega)
  refine ⟨this.1, ?_⟩
  have hpre := (wlk_len hA.1.1 (shR (aT A) (aCn A).length (fmT (aT A) (aCn A))) (opR (aT A) (aCn A).length) 61 (topH (aHo A)) 0 0 [(topH (aHo A), -1000000, 0, nI 0 - 1)] htp).1
  exact pre_get hpre rfl
/-- a line, its way up -/
def LnR (A : As) (j : Nat) (row : Rw) (r : Nat) (rw' : Rw) (dd : Nat) : Prop := (linesT A)[j + 1]? = some row ∧ row.2.1 = nI r ∧ r ≤ j ∧ (linesT A)[r]? = some rw' ∧ rw'.2.2.2 = nI dd - 1 ∧ row.2.2.2 = nI dd ∧ dd ≤ 60 ∧ tPres (aT A) rw'.1 = true ∧ (tKids (aT A) rw'.1)[row.2.2.1]? = some row.1 ∧ ∀ q rq, r < q → q ≤ j → (linesT A)[q]? = some rq → dpB dd rq
theorem LnR.at_ {j r dd : Nat} {row rw' : Rw} (h : LnR A j row r rw' dd) : (linesT A)[j + 1]? = some row := h.1
theorem LnR.ab {j r dd : Nat} {row rw' : Rw} (h : LnR A j row r rw' dd) : row.2.1 = nI r := h.2.1
theorem LnR.le {j r dd : Nat} {row rw' : Rw} (h : LnR A j row r rw' dd) : r ≤ j := h.2.2.1
theorem LnR.up {j r dd : Nat} {row rw' : Rw} (h : LnR A j row r rw' dd) : (linesT A)[r]? = some rw' := h.2.2.2.1
theorem LnR.dr {j r dd : Nat} {row rw' : Rw} (h : LnR A j row r rw' dd) : rw'.2.2.2 = nI dd - 1 := h.2.2.2.2.1
theorem LnR.dp {j r dd : Nat} {row rw' : Rw} (h : LnR A j row r rw' dd) : row.2.2.2 = nI dd := h.2.2.2.2.2.1
theorem LnR.d60 {j r dd : Nat} {row rw' : Rw} (h : LnR A j row r rw' dd) : dd ≤ 60 := h.2.2.2.2.2.2.1
theorem LnR.pr {j r dd : Nat} {row rw' : Rw} (h : LnR A j row r rw' dd) : tPres (aT A) rw'.1 = true := h.2.2.2.2.2.2.2.1
theorem LnR.kid {j r dd : Nat} {row rw' : Rw} (h : LnR A j row r rw' dd) : (tKids (aT A) rw'.1)[row.2.2.1]? = some row.1 := h.2.2.2.2.2.2.2.2.1
theorem LnR.mid {j r dd : Nat} {row rw' : Rw} (h : LnR A j row r rw' dd) : ∀ q rq, r < q → q ≤ j → (linesT A)[q]? = some rq → dpB dd rq := h.2.2.2.2.2.2.2.2.2
theorem line_row (hA : aOk A) {j : Nat} (hj : j + 1 < (linesT A).length) : ∃ row r rw' dd, LnR A j row r rw' dd ∧ tPres (aT A) row.1 = true ∧ row.1 ≠ 0 ∧ row.1 < 61 ∧ row.2.2.1 < 12 := by
  have e := rw_get hj
  obtain ⟨r, p, ab, k', dd, a1, a2, a3, a4, a5, a6, a7, a8⟩ := (lines_RI hA).1 j _ e
  have hk := tOk_kid hA.1.1 a6 (List.mem_of_getElem? a7)
  have h12 := (hA.1.1.2.2.2.1 p a6).1
  have := (List.getElem?_eq_some_iff.mp a7).1
  exact ⟨_, r, _, dd, ⟨e, a1, a2, a3, rfl, a4, a5, a6, a7, a8⟩, hk.1, hk.2.1, hk.2.2.2, by omega⟩
end RIL
