/-! stores into locals -/
def gkill (a : Option Value) : Option Value := match a with
  | some w => if w.category = 2 then none else some w
  | none => none
def gst1 : List (Option Value) → Nat → Value → List (Option Value)
  | [], _, _ => []
  | _ :: t, 0, v => some v :: t
  | a :: t, 1, v => gkill a :: gst1 t 0 v
  | a :: t, k + 2, v => a :: gst1 t (k + 1) v
def gst2 : List (Option Value) → Nat → Value → List (Option Value)
  | [], _, _ => []
  | [_], 0, v => [some v]
  | _ :: _ :: t, 0, v => some v :: none :: t
  | a :: t, 1, v => gkill a :: gst2 t 0 v
  | a :: t, k + 2, v => a :: gst2 t (k + 1) v
theorem gkill_some {a : Option Value} {w : Value} (h : gkill a = some w) : a = some w ∧ ¬ w.category = 2 := by
  cases a with
  | none => cases h
  | some u =>
    unfold gkill at h
    by_cases c : u.category = 2
    · simp [c] at h
    · simp [c] at h
      subst h
      exact ⟨rfl, c⟩
theorem gst1_spec (v : Value) : ∀ (ls : List (Option Value)) (i j : Nat) (w : Value), (gst1 ls i v)[j]? = some (some w) → (j = i ∧ w = v) ∨ (j ≠ i ∧ ls[j]? = some (some w) ∧ ¬ (j + 1 = i ∧ w.category = 2)) := by
  intro ls
  induction ls with
  | nil => intro i j w h; simp [gst1] at h
  | cons a t ih =>
    intro i j w h
    match i, h with
    | 0, h =>
      cases j with
      | zero => simp [gst1] at h; exact Or.inl ⟨rfl, h.symm⟩
      | succ j => simp [gst1] at h; exact Or.inr ⟨by omega, by simpa using h, by omega⟩
    | 1, h =>
      cases j with
      | zero =>
        simp [gst1] at h
        obtain ⟨q1, q2⟩ := gkill_some h
        exact Or.inr ⟨by omega, by simp [q1], fun z => q2 z.2⟩
      | succ j =>
        have h' : (gst1 t 0 v)[j]? = some (some w) := by simpa [gst1] using h
        rcases ih 0 j w h' with ⟨q1, q2⟩ | ⟨q1, q2, q3⟩
        · exact Or.inl ⟨by omega, q2⟩
        · exact Or.inr ⟨by omega, by simpa using q2, by omega⟩
    | k + 2, h =>
      cases j with
      | zero => simp [gst1] at h; exact Or.inr ⟨by omega, by simp [h], by omega⟩
      | succ j =>
        have h' : (gst1 t (k + 1) v)[j]? = some (some w) := by simpa [gst1] using h
        rcases ih (k + 1) j w h' with ⟨q1, q2⟩ | ⟨q1, q2, q3⟩
        · exact Or.inl ⟨by omega, q2⟩
        · exact Or.inr ⟨by omega, by simpa using q2, fun z => q3 ⟨by omega, z.2⟩⟩
theorem gst2_spec (v : Value) : ∀ (ls : List (Option Value)) (i j : Nat) (w : Value), (gst2 ls i v)[j]? = some (some w) → (j = i ∧ w = v) ∨ (j ≠ i ∧ j ≠ i + 1 ∧ ls[j]? = some (some w) ∧ ¬ (j + 1 = i ∧ w.category = 2)) := by
  intro ls
  induction ls with
  | nil => intro i j w h; simp [gst2] at h
  | cons a t ih =>
    intro i j w h
    match i, h with
    | 0, h =>
      cases t with
      | nil =>
        cases j with
        | zero => simp [gst2] at h; exact Or.inl ⟨rfl, h.symm⟩
        | succ j => simp [gst2] at h
      | cons b t =>
        match j, h with
        | 0, h => simp [gst2] at h; exact Or.inl ⟨rfl, h.symm⟩
        | 1, h => simp [gst2] at h
        | j + 2, h => simp [gst2] at h; exact Or.inr ⟨by omega, by omega, by simpa using h, by omega⟩
    | 1, h =>
      cases j with
      | zero =>
        simp [gst2] at h
        obtain ⟨q1, q2⟩ := gkill_some h
        exact Or.inr ⟨by omega, by omega, by simp [q1], fun z => q2 z.2⟩
      | succ j =>
        have h' : (gst2 t 0 v)[j]? = some (some w) := by simpa [gst2] using h
        rcases ih 0 j w h' with ⟨q1, q2⟩ | ⟨q1, q2, q3, q4⟩
        · exact Or.inl ⟨by omega, q2⟩
        · exact Or.inr ⟨by omega, by omega, by simpa using q3, by omega⟩
    | k + 2, h =>
      cases j with
      | zero => simp [gst2] at h; exact Or.inr ⟨by omega, by omega, by simp [h], by omega⟩
      | succ j =>
        have h' : (gst2 t (k + 1) v)[j]? = some (some w) := by simpa [gst2] using h
        rcases ih (k + 1) j w h' with ⟨q1, q2⟩ | ⟨q1, q2, q3, q4⟩
        · exact Or.inl ⟨by omega, q2⟩
        · exact Or.inr ⟨by omega, by omega, by simpa using q3, fun z => q4 ⟨by omega, z.2⟩⟩
def gas (X : pX) (ls : List (Option Value)) : List (Nat × Value) := (List.range ls.length).filterMap (fun i => match ls[i]? with
  | some (some v) => some (i, pv X v)
  | _ => none)
theorem gas_mem {X : pX} {ls : List (Option Value)} {i : Nat} {v : Value} (h : ls[i]? = some (some v)) : (i, pv X v) ∈ gas X ls := by
  refine List.mem_filterMap.mpr ⟨i, List.mem_range.mpr (List.getElem?_eq_some_iff.mp h).1, ?_⟩
  simp [h]
theorem gas_has {X : pX} {lsA : Array Slot} {nL : Nat} {ls : List (Option Value)} (h : gL X lsA nL ls) : lv_has lsA nL (gas X ls) := by
  refine ⟨h.1, h.2.1, fun q hq => ?_⟩
  obtain ⟨i, -, hi⟩ := List.mem_filterMap.mp hq
  cases e : ls[i]? with
  | none => simp [e] at hi
  | some a =>
    cases a with
    | none => simp [e] at hi
    | some v =>
      simp [e] at hi
      subst hi
      exact h.2.2 i v e
theorem gL_st1 {X : pX} {lsA : Array Slot} {nL i : Nat} {ls : List (Option Value)} {v : Value} (h : lv_has lsA nL ((i, pv X v) :: (gas X ls).filter (fun q => !(q.1 == i) && !(q.1 + 1 == i && q.2.category == 2)))) : gL X lsA nL (gst1 ls i v) := by
  refine ⟨h.1, h.2.1, fun j w hj => ?_⟩
  rcases gst1_spec v ls i j w hj with ⟨rfl, rfl⟩ | ⟨q1, q2, q3⟩
  · exact h.2.2 _ List.mem_cons_self
  · refine h.2.2 (j, pv X w) (List.mem_cons_of_mem _ (List.mem_filter.mpr ⟨gas_mem q2, ?_⟩))
    simp only [pv_cat]
    by_cases c : j + 1 = i
    · have c2 : ¬ w.category = 2 := fun z => q3 ⟨c, z⟩
      simp [q1, c2]
    · simp [q1, c]
theorem gL_st2 {X : pX} {lsA : Array Slot} {nL i : Nat} {ls : List (Option Value)} {v : Value} (h : lv_has lsA nL ((i, pv X v) :: (gas X ls).filter (fun q => !(q.1 == i) && (!(q.1 == i + 1) && !(q.1 + 1 == i && q.2.category == 2))))) : gL X lsA nL (gst2 ls i v) := by
  refine ⟨h.1, h.2.1, fun j w hj => ?_⟩
  rcases gst2_spec v ls i j w hj with ⟨rfl, rfl⟩ | ⟨q1, q2, q3, q4⟩
  · exact h.2.2 _ List.mem_cons_self
  · refine h.2.2 (j, pv X w) (List.mem_cons_of_mem _ (List.mem_filter.mpr ⟨gas_mem q3, ?_⟩))
    simp only [pv_cat]
    by_cases c : j + 1 = i
    · have c2 : ¬ w.category = 2 := fun z => q4 ⟨c, z⟩
      simp [q1, q2, c2]
    · simp [q1, q2, c]
