/-! append keeps sound states -/
section AP4
variable {A : As}
theorem preB_ch {x : Int32} (hb : allB x 4 = true) : ∀ v, v ∈ preB x 4 → 32 ≤ v ∧ v ≤ 126 := by
  intro v hv
  unfold preB at hv
  obtain ⟨h1, h2⟩ := List.mem_filter.mp hv
  obtain ⟨j, hj, rfl⟩ := List.mem_map.mp h1
  have ho := allB_at hb (List.mem_range.mp hj)
  unfold okBy at ho
  rw [Bool.or_eq_true, Bool.and_eq_true, decide_eq_true_eq, decide_eq_true_eq, decide_eq_true_eq] at ho
  rcases ho with z | ⟨z1, z2⟩
  · exact absurd z (of_decide_eq_true h2)
  · exact ⟨Int32.not_lt.mp z1, z2⟩
theorem ok_append (hA : aOk A) (x : Int32) : aOk (stAppend A x).1 := by
  have hA0 := hA
  obtain ⟨h1, h2, h3, h4, h5, h6, h7, h8, h9, h10, h11, h12, h13, h14, h15⟩ := hA
  unfold stAppend
  by_cases hb : allB x 4 = false
  · rw [if_pos hb]; exact hA0
  · rw [if_neg hb]
    by_cases c : 80 < (aTx A).length + (preB x 4).length
    · rw [if_pos c]; exact hA0
    · rw [if_neg c]
      have hb' : allB x 4 = true := by simpa using hb
      exact ⟨h1, h2, h3, h4, h5, h6, by
        show (aTx A ++ preB x 4).length ≤ 80
        rw [List.length_append]; omega, fun v hv => by
        rcases List.mem_append.mp hv with z | z
        · exact h8 v z
        · exact preB_ch hb' v z, h9, h10, h11, h12, h13, h14, h15⟩
end AP4
