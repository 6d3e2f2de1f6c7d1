/-! append: the bytes are looked at, both sides -/
section APP
variable {S : pS} {m : Nat} {A : As}
def by4 (x : Int32) (k : Nat) : Int32 := (x >>> (((8 : Int32) * nI k) &&& 31)) &&& (255 : Int32)
def bsq (x : Int32) (j : Nat) : Int32 := by4 x (3 - j)
def preB (x : Int32) (j : Nat) : List Int32 := ((List.range j).map (bsq x)).filter fun v => decide (v ≠ 0)
def okBy (v : Int32) : Bool := decide (v = 0) || (decide (¬ v < 32) && decide (v ≤ 126))
def allB (x : Int32) (j : Nat) : Bool := (List.range j).all fun i => okBy (bsq x i)
theorem preB_s (x : Int32) (j : Nat) : preB x (j + 1) = preB x j ++ (if bsq x j = 0 then [] else [bsq x j]) := by
  unfold preB
  rw [List.range_succ, List.map_append, List.filter_append]
  by_cases c : bsq x j = 0
  · simp [c]
  · simp [c]
theorem allB_s (x : Int32) (j : Nat) : allB x (j + 1) = (allB x j && okBy (bsq x j)) := by
  unfold allB
  rw [List.range_succ, List.all_append]
  simp
theorem bsq_c (x : Int32) {j : Nat} (hj : j < 4) : ((((x.toUInt32 >>> ((nI (8 * (3 - j))).toUInt32 &&& Int32.toUInt32 31)).toInt32) &&& (255 : Int32))) = bsq x j := (byt_eq x (3 - j) (by omega)).symm
theorem sub8 : ∀ j, j < 4 → nI 24 - nI (8 * j) = nI (8 * (3 - j)) := by decide +kernel
theorem sub8s : ∀ j, j < 4 → nI (8 * (3 - j)) + (-8) = nI 24 - nI (8 * (j + 1)) := by decide +kernel
theorem sub1 : ∀ j, j < 4 → nI 3 - nI j = nI (3 - j) := by decide +kernel
theorem sub1s : ∀ j, j < 4 → nI (3 - j) + (-1) = nI 3 - nI (j + 1) := by decide +kernel
theorem c_appchk (x : Int32) : ∃ r, iter (F_X9_append_5 0 x S) fu ((0 : Int32), (24 : Int32)) = some r ∧ ((r = .inl () ∧ allB x 4 = false) ∨ (r = .inr (nI (preB x 4).length) ∧ allB x 4 = true)) := by
  have bad : ∀ j, j < 4 → okBy (bsq x j) = false → allB x 4 = false := fun j hj hb => by
    unfold allB
    rw [List.all_eq_false]
    exact ⟨j, List.mem_range.mpr hj, by rw [hb]; decide⟩
  obtain ⟨r, e, hr⟩ := iter_fu (F := F_X9_append_5 0 x S) (s := ((0 : Int32), (24 : Int32))) (fun j s => s = (nI (preB x j).length, nI 24 - nI (8 * j)) ∧ allB x j = true) (P := fun r => (r = .inl () ∧ allB x 4 = false) ∨ (r = .inr (nI (preB x 4).length) ∧ allB x 4 = true)) 4 (by decide) ⟨rfl, rfl⟩
    (by
      rintro s ⟨rfl, hs⟩
      unfold F_X9_append_5
      rw [if_pos (show nI 24 - nI (8 * 4) < 0 by decide)]
      exact ⟨_, rfl, Or.inr ⟨rfl, hs⟩⟩)
    (by
      rintro j s hj ⟨rfl, hs⟩
      unfold F_X9_append_5
      dsimp only
      have n0 : ¬ nI (8 * (3 - j)) < 0 := nI_pos (by omega)
      rw [sub8 j hj, if_neg n0, bsq_c x hj, sub8s j hj]
      by_cases z : bsq x j = 0
      · rw [if_pos z]
        refine ⟨_, rfl, ?_, ?_⟩
        · rw [preB_s, if_pos z, List.append_nil]
        · rw [allB_s, hs]; unfold okBy; rw [decide_eq_true z]; rfl
      · rw [if_neg z]
        by_cases l1 : bsq x j < 32
        · rw [if_pos l1]
          refine ⟨_, rfl, Or.inl ⟨rfl, bad j hj ?_⟩⟩
          unfold okBy
          rw [decide_eq_false z, decide_eq_false (fun w => w l1)]; rfl
        · rw [if_neg l1]
          by_cases l2 : bsq x j ≤ 126
          · rw [if_pos l2, nI_1]
            refine ⟨_, rfl, ?_, ?_⟩
            · rw [preB_s, if_neg z, List.length_append]; rfl
            · rw [allB_s, hs]; unfold okBy; rw [decide_eq_true l1, decide_eq_true l2]; simp
          · rw [if_neg l2]
            refine ⟨_, rfl, Or.inl ⟨rfl, bad j hj ?_⟩⟩
            unfold okBy
            rw [decide_eq_false z, decide_eq_false l2]; simp)
  exact ⟨r, e, hr⟩
theorem r_appchk (x : Int32) : iter (F_X10_append_12 m x S) fu ((0 : Int32), (1 : Int32), (3 : Int32)) = some (nI (preB x 4).length, if allB x 4 = true then 1 else 0) := by
  obtain ⟨r, e, hr⟩ := iter_fu (F := F_X10_append_12 m x S) (s := ((0 : Int32), (1 : Int32), (3 : Int32))) (fun j s => s = (nI (preB x j).length, (if allB x j = true then (1 : Int32) else 0), nI 3 - nI j)) (P := fun r => r = (nI (preB x 4).length, if allB x 4 = true then (1 : Int32) else 0)) 4 (by decide) rfl
    (by
      rintro s rfl
      unfold F_X10_append_12
      rw [if_pos (show nI 3 - nI 4 < 0 by decide)]
      exact ⟨_, rfl, rfl⟩)
    (by
      rintro j s hj rfl
      unfold F_X10_append_12
      dsimp only
      have n0 : ¬ nI (3 - j) < 0 := nI_pos (by omega)
      rw [sub1 j hj, if_neg n0]
      show wp (if ¬ bsq x j = 0 then F_X10_append_41 m x S _ (nI (3 - j)) (bsq x j) _ 1 else F_X10_append_41 m x S _ (nI (3 - j)) (bsq x j) _ 0) _
      unfold F_X10_append_41 F_X10_append_64
      rw [sub1s j hj, allB_s, preB_s]
      by_cases z : bsq x j = 0
      · have o : okBy (bsq x j) = true := by unfold okBy; rw [decide_eq_true z]; rfl
        rw [if_neg (fun w => w z), if_pos z, if_pos z, o, Bool.and_true, List.append_nil, Int32.add_zero]
        cases allB x j
        · rw [ite0 rfl]; exact ⟨_, rfl, rfl⟩
        · rw [ite1 rfl]; exact ⟨_, rfl, rfl⟩
      · rw [if_pos z, if_neg z, if_neg z, nI_1, List.length_append, List.length_singleton]
        cases allB x j
        · rw [ite0 rfl]; exact ⟨_, rfl, rfl⟩
        · rw [ite1 rfl, in_eq, Option.bind_some, Bool.true_and]
          by_cases c : ¬ bsq x j < 32 ∧ ¬ 126 < bsq x j
          · have o : okBy (bsq x j) = true := by unfold okBy; rw [decide_eq_true c.1, decide_eq_true (Int32.not_lt.mp c.2)]; simp
            rw [itp1 c, o]
            exact ⟨_, rfl, rfl⟩
          · have o : okBy (bsq x j) = false := by
              unfold okBy
              rw [decide_eq_false z]
              by_cases l1 : bsq x j < 32
              · rw [decide_eq_false (fun w => w l1)]; rfl
              · rw [decide_eq_false (show ¬ bsq x j ≤ 126 from fun w => c ⟨l1, Int32.not_lt.mpr w⟩)]; simp
            rw [itp0 c, o]
            exact ⟨_, rfl, rfl⟩)
  rw [e, hr]
end APP
