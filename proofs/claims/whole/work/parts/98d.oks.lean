/-! sound states stay sound: the calls that make no new outline -/
section OKS
variable {A : As}
theorem ok_clear (hA : aOk A) : aOk (stClear A).1 := by
  obtain ⟨h1, h2, h3, h4, h5, h6, h7, h8, h9, h10, h11, h12, h13, h14, h15⟩ := hA
  exact ⟨tNew_ok, h2, fun U hU => (by cases hU), Nat.zero_le _, Nat.zero_le _, fun i hi => (by cases hi), h7, h8, h9, h10, Nat.zero_le _, fun c hc => (by cases hc), rfl, h14, fun U hU => (by cases hU)⟩
theorem chkH_leL (T : Tr) (H : List Nat) : (chkH T H).length ≤ H.length := by
  unfold chkH
  split
  · exact Nat.le_refl _
  · exact Nat.zero_le _
theorem chkH_pre (T : Tr) (H : List Nat) : ∀ i, i ∈ chkH T H → tPres T i = true := by
  intro i hi
  unfold chkH at hi
  split at hi
  · rename_i h
    exact List.all_eq_true.mp h i hi
  · cases hi
theorem ok_undo (hA : aOk A) : aOk (stUndo A).1 := by
  have hA0 := hA
  obtain ⟨h1, h2, h3, h4, h5, h6, h7, h8, h9, h10, h11, h12, h13, h14, h15⟩ := hA
  unfold stUndo
  cases e : (aHi A).getLast? with
  | none => exact hA0
  | some U =>
    have hm : U ∈ aHi A := List.mem_of_getLast? e
    exact ⟨h3 U hm, h2, fun V hV => h3 V (List.dropLast_subset _ hV), by
      show (aHi A).dropLast.length ≤ 8
      rw [List.length_dropLast]; omega, Nat.le_trans (chkH_leL _ _) h5, chkH_pre _ _, h7, h8, h9, h10, h11, h12, h15 U hm, h14, fun V hV => h15 V (List.dropLast_subset _ hV)⟩
theorem ok_snap (hA : aOk A) : aOk (stSnap A).1 := by
  obtain ⟨h1, h2, h3, h4, h5, h6, h7, h8, h9, h10, h11, h12, h13, h14, h15⟩ := hA
  exact ⟨h1, fun U hU => by
    have hU' : some (aT A) = some U := hU
    cases hU'
    exact h1, h3, h4, h5, h6, h7, h8, h9, h10, h11, h12, h13, fun U hU => by
    have hU' : some (aT A) = some U := hU
    cases hU'
    exact h13, h15⟩
theorem ok_restore (hA : aOk A) : aOk (stRestore A).1 := by
  have hA0 := hA
  obtain ⟨h1, h2, h3, h4, h5, h6, h7, h8, h9, h10, h11, h12, h13, h14, h15⟩ := hA
  unfold stRestore
  cases e : aSv A with
  | none => exact hA0
  | some U => exact ⟨h2 U e, h2, fun V hV => (by cases hV), Nat.zero_le _, Nat.le_trans (chkH_leL _ _) h5, chkH_pre _ _, h7, h8, h9, h10, h11, h12, h14 U e, h14, fun V hV => (by cases hV)⟩
theorem ok_hoist (hA : aOk A) (x : Int32) : aOk (stHoist A x).1 := by
  have hA0 := hA
  obtain ⟨h1, h2, h3, h4, h5, h6, h7, h8, h9, h10, h11, h12, h13, h14, h15⟩ := hA
  unfold stHoist
  rcases itN_c h1.1 x with ⟨i, hi, rfl, hp, e, e3⟩ | ⟨e, e3⟩
  · rw [e]
    dsimp only
    by_cases c : (aHo A).length = 4
    · rw [if_pos c]; exact hA0
    · rw [if_neg c]
      exact ⟨h1, h2, h3, h4, by
        show (aHo A ++ [i]).length ≤ 4
        rw [List.length_append, List.length_singleton]; omega, fun j hj => by
        rcases List.mem_append.mp hj with z | z
        · exact h6 j z
        · rw [List.mem_singleton.mp z]; exact hp, h7, h8, h9, h10, h11, h12, h13, h14, h15⟩
  · rw [e]; exact hA0
theorem ok_unhoist (hA : aOk A) : aOk (stUnhoist A).1 := by
  have hA0 := hA
  obtain ⟨h1, h2, h3, h4, h5, h6, h7, h8, h9, h10, h11, h12, h13, h14, h15⟩ := hA
  unfold stUnhoist
  by_cases c : aHo A = []
  · rw [if_pos c]; exact hA0
  · rw [if_neg c]
    exact ⟨h1, h2, h3, h4, by
      show (aHo A).dropLast.length ≤ 4
      rw [List.length_dropLast]; omega, fun j hj => h6 j (List.dropLast_subset _ hj), h7, h8, h9, h10, h11, h12, h13, h14, h15⟩
theorem ok_item (hA : aOk A) (x w : Int32) : aOk (stItem A x w).1 := by
  unfold stItem
  split
  · exact hA
  · split <;> exact hA
theorem ok_out (hA : aOk A) (w : Int32) : aOk (stOut A w).1 := by
  unfold stOut
  split <;> exact hA
theorem ok_share (hA : aOk A) (x : Int32) : aOk (stShare A x).1 := by
  unfold stShare
  split <;> exact hA
theorem ok_mean (hA : aOk A) (x : Int32) : aOk (stMean A x).1 := by
  unfold stMean
  split <;> exact hA
theorem ok_lineOf (hA : aOk A) (x : Int32) : aOk (stLineOf A x).1 := hA
end OKS
