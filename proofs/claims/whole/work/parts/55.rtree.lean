/-! the reference's row of numbers holds an outline -/
def flg (d f : Bool) : Int32 := (if d then 1 else 0) + (if f then 2 else 0)
def RT (g : Nat → Int32) (T : Tr) : Prop := g 0 = nI (tMade T) ∧ (∀ i, i < 61 → g (1 + i) = if tPres T i then 1 else 0) ∧
  ∀ i, tPres T i = true → g (62 + i) = tVal T i ∧ g (123 + i) = tDay T i ∧ g (184 + i) = flg (tDone T i) (tFold T i) ∧ g (245 + i) = nI (tName T i).length ∧
    (∀ k x, (tName T i)[k]? = some x → g (306 + (10 * i + k)) = x) ∧ g (916 + i) = nI (tKids T i).length ∧ ∀ k c, (tKids T i)[k]? = some c → g (977 + (12 * i + k)) = nI c
theorem RT_eq {g g' : Nat → Int32} {T : Tr} (h : RT g T) (hT : tOk T) (e : ∀ i, i < 1709 → g' i = g i) : RT g' T := by
  obtain ⟨h1, h2, h3⟩ := h
  refine ⟨by rw [e 0 (by omega)]; exact h1, fun i hi => by rw [e _ (by omega)]; exact h2 i hi, fun i hp => ?_⟩
  have hi := tOk_lt hT hp
  have n10 := (hT.2.2.2.2.1 i hp).1
  have n12 := (hT.2.2.2.1 i hp).1
  obtain ⟨a1, a2, a3, a4, a5, a6, a7⟩ := h3 i hp
  refine ⟨by rw [e _ (by omega)]; exact a1, by rw [e _ (by omega)]; exact a2, by rw [e _ (by omega)]; exact a3, by rw [e _ (by omega)]; exact a4, fun k x hx => ?_, by rw [e _ (by omega)]; exact a6, fun k c hc => ?_⟩
  · have := (List.getElem?_eq_some_iff.mp hx).1
    rw [e _ (by omega)]; exact a5 k x hx
  · have := (List.getElem?_eq_some_iff.mp hc).1
    rw [e _ (by omega)]; exact a7 k c hc
def RR (S : pS) (m : Nat) (T : Tr) : Prop := Sh S m sp10 ∧ RT (cI (S.2 (m + 1))) T
theorem in_eq (S : pS) (x l u : Int32) : F_X10_in S x l u = some (if ¬ x < l ∧ ¬ u < x then (1 : Int32) else 0) := by
  unfold F_X10_in
  by_cases c1 : x < l
  · rw [if_pos c1]; simp [c1]
  · rw [if_neg c1]
    by_cases c2 : u < x
    · rw [if_pos c2]; simp [c2]
    · rw [if_neg c2]; simp [c1, c2]
section RTREE
variable {S : pS} {m : Nat} {T : Tr}
theorem r_isItem (h : RR S m T) (x : Int32) : F_X10_isItem S m x = some (if itm T x then (1 : Int32) else 0) := by
  unfold F_X10_isItem
  rw [s10_oF h.1, in_eq, Option.bind_some]
  unfold itm
  by_cases c1 : x < 0
  · rw [itp0 (c := ¬ x < 0 ∧ ¬ (60 : Int32) < x) (fun z => z.1 c1)]; simp [c1]
  · obtain ⟨j, hj, rfl⟩ := nI_of c1
    by_cases c2 : j < 61
    · have c3 : ¬ (60 : Int32) < nI j := nI_nlt (a := 60) (by omega) (by decide)
      have c4 : ¬ (61 : Int32) ≤ nI j := ge61 c2
      rw [itp1 (c := ¬ nI j < 0 ∧ ¬ (60 : Int32) < nI j) ⟨c1, c3⟩, s10_g1 h.1, Option.bind_some, li_1, nI_add, s10_r1 h.1 (by omega), Option.bind_some, h.2.2.1 j c2, nI_clamp hj]
      have h1 : decide (¬ nI j < 0) = true := decide_eq_true c1
      have h2 : decide (¬ (61 : Int32) ≤ nI j) = true := decide_eq_true c4
      rw [h1, h2]
      cases tPres T j <;> rfl
    · have c3 : (60 : Int32) < nI j := nI_lt (a := 60) (by omega) hj
      have c4 : (61 : Int32) ≤ nI j := nI_le (a := 61) (by omega) hj
      rw [itp0 (c := ¬ nI j < 0 ∧ ¬ (60 : Int32) < nI j) (fun z => z.2 c3)]; simp [c4]
theorem r_isItem_n (h : RR S m T) {i : Nat} (hi : i < 61) : F_X10_isItem S m (nI i) = some (if tPres T i then (1 : Int32) else 0) := by rw [r_isItem h, itm_nI hi]
theorem r_isOther (h : RR S m T) (x : Int32) : F_X10_isOther S m x = some (if x ≠ 0 ∧ itm T x = true then (1 : Int32) else 0) := by
  unfold F_X10_isOther
  rw [s10_oF h.1]
  by_cases c : x = 0
  · rw [if_pos c]; simp [c]
  · rw [if_neg c, r_isItem h, Option.bind_some]
    cases e : itm T x
    · rw [ite0 rfl]; simp
    · rw [ite1 rfl]; simp [c]
theorem r_many (h : RR S m T) {i : Nat} (hp : tPres T i = true) : cI (S.2 (m + 1)) (916 + i) = nI (tKids T i).length := (h.2.2.2 i hp).2.2.2.2.2.1
theorem r_child (h : RR S m T) {i k c : Nat} (hi : i < 61) (hk : k < 12) (hp : tPres T i = true) (hc : (tKids T i)[k]? = some c) : F_X10_child S m (nI i) (nI k) = some (nI c) := by
  unfold F_X10_child
  rw [s10_oF h.1, s10_g1 h.1, Option.bind_some, li_977, li_12, pk_mul, nI_add, nI_add, s10_r1 h.1 (by omega), Option.bind_some]
  have := (h.2.2.2 i hp).2.2.2.2.2.2 k c hc
  rw [show 977 + 12 * i + k = 977 + (12 * i + k) by omega, this]
theorem flg_0 (d f : Bool) : ((flg d f >>> ((0 : Int32) &&& 31)) &&& (1 : Int32)) = if d then 1 else 0 := by cases d <;> cases f <;> rfl
theorem flg_1 (d f : Bool) : ((flg d f >>> ((1 : Int32) &&& 31)) &&& (1 : Int32)) = if f then 1 else 0 := by cases d <;> cases f <;> rfl
theorem r_has0 (h : RR S m T) {i : Nat} (hi : i < 61) (hp : tPres T i = true) : F_X10_has S m (nI i) 0 = some (if tDone T i then (1 : Int32) else 0) := by
  unfold F_X10_has
  rw [s10_oF h.1, s10_g1 h.1, Option.bind_some, li_184, nI_add, s10_r1 h.1 (by omega), Option.bind_some, (h.2.2.2 i hp).2.2.1, flg_0]
  cases tDone T i <;> rfl
theorem r_has1 (h : RR S m T) {i : Nat} (hi : i < 61) (hp : tPres T i = true) : F_X10_has S m (nI i) 1 = some (if tFold T i then (1 : Int32) else 0) := by
  unfold F_X10_has
  rw [s10_oF h.1, s10_g1 h.1, Option.bind_some, li_184, nI_add, s10_r1 h.1 (by omega), Option.bind_some, (h.2.2.2 i hp).2.2.1, flg_1]
  cases tFold T i <;> rfl
theorem r_indexOf (h : RR S m T) (hT : tOk T) {i : Nat} (x : Nat) (hx : x < 61) (hi : i < 61) (hp : tPres T i = true) : ∃ r, F_X10_indexOf S m (nI i) (nI x) = some r ∧ (r = -1 ↔ x ∉ tKids T i) := by
  unfold F_X10_indexOf
  rw [s10_oF h.1]
  have h12 := (hT.2.2.2.1 i hp).1
  obtain ⟨r, e, hr⟩ := iter_fu (F := F_X10_indexOf_2 m (nI i) (nI x) S) (s := (0 : Int32)) (fun k s => s = nI k ∧ ∀ j, j < k → (tKids T i)[j]? ≠ some x) (P := fun r => ((∃ k, k < 12 ∧ r = .inl (nI k)) ∧ x ∈ tKids T i) ∨ (r = .inr () ∧ x ∉ tKids T i)) (tKids T i).length (by omega) ⟨rfl, fun j hj => absurd hj (Nat.not_lt_zero _)⟩
    (by
      rintro s ⟨rfl, hs⟩
      refine ⟨.inr (.inr ()), ?_, Or.inr ⟨rfl, fun z => ?_⟩⟩
      · unfold F_X10_indexOf_2
        rw [s10_g1 h.1, Option.bind_some, li_916, nI_add, s10_r1 h.1 (by omega), Option.bind_some, r_many h hp, if_pos (nI_le (Nat.le_refl _) (by omega))]
      · obtain ⟨j, hj, e⟩ := List.mem_iff_getElem.mp z
        exact hs j hj (by rw [List.getElem?_eq_getElem hj, e]))
    (by
      rintro k s hk ⟨rfl, hs⟩
      have e1 : (tKids T i)[k]? = some (tKids T i)[k] := List.getElem?_eq_getElem hk
      have hk61 := (tOk_kid hT hp (List.getElem_mem hk)).2.2.2
      unfold F_X10_indexOf_2
      rw [s10_g1 h.1, Option.bind_some, li_916, nI_add, s10_r1 h.1 (by omega), Option.bind_some, r_many h hp, if_neg (nI_ge hk (by omega)), r_child h hi (by omega) hp e1, Option.bind_some]
      by_cases c : (tKids T i)[k] = x
      · rw [if_neg (fun z => z (by rw [c]))]
        exact ⟨_, rfl, Or.inl ⟨⟨k, by omega, rfl⟩, c ▸ List.getElem_mem hk⟩⟩
      · rw [if_pos (fun z => c ((nI_eq (by omega) (by omega)).mp z)), nI_1]
        refine ⟨_, rfl, rfl, fun j hj => ?_⟩
        rcases Nat.lt_succ_iff_lt_or_eq.mp hj with z | z
        · exact hs j z
        · rw [z, e1]; exact fun w => c (Option.some.inj w))
  rw [e, Option.bind_some]
  rcases hr with ⟨⟨k, hk, rfl⟩, hm⟩ | ⟨rfl, hm⟩
  · refine ⟨_, rfl, fun z => ?_, fun z => absurd hm z⟩
    have : nI k < 0 := by rw [z]; decide
    exact absurd this (nI_pos (by omega))
  · exact ⟨_, rfl, fun _ => hm, fun _ => rfl⟩
/-! whole rows are copied -/
theorem r_remembers (h : Sh S m sp10) : ∃ S', F_X10_remembers S m = some S' ∧ Sh S' m sp10 ∧ Md S S' [m + 3] ∧ ∀ j, j < 1709 → cI (S'.2 (m + 3)) j = cI (S.2 (m + 1)) j := by
  unfold F_X10_remembers
  rw [s10_oF h]
  obtain ⟨S', e, hS⟩ := iter_fu (F := F_X10_remembers_2 m) (s := ((0 : Int32), S)) (fun i s => s.1 = nI i ∧ Sh s.2 m sp10 ∧ Md S s.2 [m + 3] ∧ ∀ j, j < i → cI (s.2.2 (m + 3)) j = cI (S.2 (m + 1)) j) (P := fun S' => Sh S' m sp10 ∧ Md S S' [m + 3] ∧ ∀ j, j < 1709 → cI (S'.2 (m + 3)) j = cI (S.2 (m + 1)) j) 1709 (by decide) ⟨rfl, h, Md_refl _ _, fun j hj => absurd hj (Nat.not_lt_zero _)⟩
    (by
      rintro ⟨b, S1⟩ ⟨h1, h2, h3, h4⟩
      dsimp only at h1 h2 h3 h4
      subst h1
      unfold F_X10_remembers_2
      rw [if_pos le1709]
      exact ⟨_, rfl, h2, h3, h4⟩)
    (by
      rintro i ⟨b, S1⟩ hi ⟨h1, h2, h3, h4⟩
      dsimp only at h1 h2 h3 h4
      subst h1
      unfold F_X10_remembers_2
      rw [if_neg (ge1709 hi), s10_g3 h2, Option.bind_some, s10_g1 h2, Option.bind_some, s10_r1 h2 hi, Option.bind_some, s10_w3 h2 hi, Option.bind_some, nI_1]
      refine ⟨_, rfl, rfl, sh_wI h2 _ _ _, Md_I h3 (by simp) _ _, fun j hj => ?_⟩
      show cI ((wI S1 (m + 3) i _).2 (m + 3)) j = _
      rw [s10_v3 h2, h3.2 (m + 1) (by simp)]
      by_cases c : j = i
      · subst c; rw [pu_at]
      · rw [pu_ne _ _ _ c]; exact h4 j (by omega))
  exact ⟨S', by rw [e]; rfl, hS⟩
theorem r_takesBack (h : Sh S m sp10) : ∃ S', F_X10_takesBack S m = some S' ∧ Sh S' m sp10 ∧ Md S S' [m + 1] ∧ ∀ j, j < 1709 → cI (S'.2 (m + 1)) j = cI (S.2 (m + 3)) j := by
  unfold F_X10_takesBack
  rw [s10_oF h]
  obtain ⟨S', e, hS⟩ := iter_fu (F := F_X10_takesBack_2 m) (s := ((0 : Int32), S)) (fun i s => s.1 = nI i ∧ Sh s.2 m sp10 ∧ Md S s.2 [m + 1] ∧ ∀ j, j < i → cI (s.2.2 (m + 1)) j = cI (S.2 (m + 3)) j) (P := fun S' => Sh S' m sp10 ∧ Md S S' [m + 1] ∧ ∀ j, j < 1709 → cI (S'.2 (m + 1)) j = cI (S.2 (m + 3)) j) 1709 (by decide) ⟨rfl, h, Md_refl _ _, fun j hj => absurd hj (Nat.not_lt_zero _)⟩
    (by
      rintro ⟨b, S1⟩ ⟨h1, h2, h3, h4⟩
      dsimp only at h1 h2 h3 h4
      subst h1
      unfold F_X10_takesBack_2
      rw [if_pos le1709]
      exact ⟨_, rfl, h2, h3, h4⟩)
    (by
      rintro i ⟨b, S1⟩ hi ⟨h1, h2, h3, h4⟩
      dsimp only at h1 h2 h3 h4
      subst h1
      unfold F_X10_takesBack_2
      rw [if_neg (ge1709 hi), s10_g1 h2, Option.bind_some, s10_g3 h2, Option.bind_some, s10_r3 h2 hi, Option.bind_some, s10_w1 h2 hi, Option.bind_some, nI_1]
      refine ⟨_, rfl, rfl, sh_wI h2 _ _ _, Md_I h3 (by simp) _ _, fun j hj => ?_⟩
      show cI ((wI S1 (m + 1) i _).2 (m + 1)) j = _
      rw [s10_v1 h2, h3.2 (m + 3) (by simp)]
      by_cases c : j = i
      · subst c; rw [pu_at]
      · rw [pu_ne _ _ _ c]; exact h4 j (by omega))
  exact ⟨S', by rw [e]; rfl, hS⟩
end RTREE
