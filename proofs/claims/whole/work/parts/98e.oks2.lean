/-! sound states stay sound: changes -/
section OK2
variable {A : As}
theorem ok_setNum (hA : aOk A) (x d n : Int32) : aOk (stSetNum A x d n).1 := by
  have hr : tName (aT A) 0 = [] := hA.2.2.2.2.2.2.2.2.2.2.2.2.1
  have hn := hA.1.1.2.2.2.2.1
  unfold stSetNum
  split
  · exact hA
  · split
    · split
      · exact hA
      · exact keep_aOk hA (good_cg hA.1 rfl rfl rfl (fun i hi => hn i hi)) hr
    · split
      · exact hA
      · exact keep_aOk hA (good_cg hA.1 rfl rfl rfl (fun i hi => hn i hi)) hr
theorem ok_setFlag (hA : aOk A) (x d n : Int32) : aOk (stSetFlag A x d n).1 := by
  have hr : tName (aT A) 0 = [] := hA.2.2.2.2.2.2.2.2.2.2.2.2.1
  have hn := hA.1.1.2.2.2.2.1
  unfold stSetFlag
  split
  · exact hA
  · split
    · exact keep_aOk hA (good_cg hA.1 rfl rfl rfl (fun i hi => hn i hi)) hr
    · exact keep_aOk hA (good_cg hA.1 rfl rfl rfl (fun i hi => hn i hi)) hr
theorem ok_related (hA : aOk A) (x y p : Int32) : aOk (stRelated A x y p).1 := by
  unfold stRelated
  split
  · exact hA
  · split <;> split <;> exact hA
theorem ok_letter (hA : aOk A) (x y : Int32) : aOk (stLetter A x y).1 := by
  unfold stLetter
  split
  · exact hA
  · split
    · exact hA
    · split <;> exact hA
theorem ok_below (hA : aOk A) (x y : Int32) : aOk (stBelow A x y).1 := by
  unfold stBelow
  split
  · exact hA
  · split <;> exact hA
theorem ok_err (hA : aOk A) : aOk (stErr A).1 := by
  unfold stErr
  split <;> exact hA
theorem ok_refusal (hA : aOk A) (x : Int32) : aOk (stRefusal A x).1 := by
  unfold stRefusal
  split
  · exact hA
  · split <;> exact hA
theorem ok_detach (hA : aOk A) (p i : Int32) : aOk (stDetach A p i).1 := by
  have hr : tName (aT A) 0 = [] := hA.2.2.2.2.2.2.2.2.2.2.2.2.1
  unfold stDetach
  split
  · exact hA
  · split
    · exact hA
    · exact keep_aOk hA (detach_good hA.1 _ _) hr
theorem put_all {T : Tr} (h : tAll T) {p k c : Nat} (hk : k ≤ (tKids T p).length) : tAll (tPut T p k c) := fun i hi h0 => by
  obtain ⟨q, hq, hm⟩ := h i hi h0
  exact ⟨q, hq, (put_mem hk).mpr (Or.inr hm)⟩
theorem ok_clone (hA : aOk A) (x p i : Int32) : aOk (stClone A x p i).1 := by
  have hr : tName (aT A) 0 = [] := hA.2.2.2.2.2.2.2.2.2.2.2.2.1
  have hT := hA.1.1
  unfold stClone
  by_cases x0 : x = 0
  · rw [if_pos x0]; exact hA
  · rw [if_neg x0]
    rcases itN_c hT x with ⟨c, hc, rfl, hcp, e, e3⟩ | ⟨e, e3⟩
    · rw [e]
      dsimp only
      have hc0 : c ≠ 0 := fun z => x0 (by rw [z]; rfl)
      rcases itN_c hT p with ⟨q, hq, rfl, hqp, e4, e5⟩ | ⟨e4, e5⟩
      · rw [e4]
        dsimp only
        have h12 := (hT.2.2.2.1 q hqp).1
        rcases ixN_c i (n := (tKids (aT A) q).length + 1) (by omega) with ⟨k, hk, rfl, ek⟩ | ⟨ek, -⟩
        · rw [ek]
          dsimp only
          by_cases r0 : reaC (aT A) c q = 0
          · rw [if_pos r0]
            obtain ⟨a1, a2, a3, a4⟩ := reaC_0 hT hqp r0
            have hok := put_ok hT hqp hcp hc0 (show k ≤ (tKids (aT A) q).length by omega) a1 a2 a3
            refine keep_aOk hA ⟨hok, put_all hA.1.2.1 (by omega), ?_⟩ hr
            have hw := put_way hT hok hqp hcp (show k ≤ (tKids (aT A) q).length by omega) a3
            have w1 := way_le hT hA.1.2.1 c hcp
            have w2 := plc_le hT hqp
            have w3 := hA.1.2.2
            rw [hw]
            refine reaP_0 w3 (by omega) (show 1 + wayT (aT A) c ≤ 301 by omega) ?_
            rw [← nI_1l]
            exact a4
          · rw [if_neg r0]
            exact ch_aOk hA (show 2 ≤ 3 by decide)
        · rw [ek]; exact hA
      · rw [e4]; exact hA
    · rw [e]; exact hA
end OK2
