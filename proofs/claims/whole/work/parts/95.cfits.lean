/-! filters: the class -/
section CFI
variable {S : pS} {t b c1 : Nat} {T : Tr}
theorem c_nc20 (h : TR S t T) (hT : tOk T) (hs1 : Sh S c1 sp1) {i c s : Nat} {l : List Int32} (hi : tPres T i = true) (hc : c < 5) (hl : l.length ≤ 10) (hs : s + l.length ≤ (tName T i).length) (h18 : ∀ (k : Nat) x, l[k]? = some x → cI (S.2 (c1 + 4)) (10 * c + k) = x) : ∃ k, iter (F_X8_nameContains_20 t (nI i) (c1 + 4) (nI (10 * c)) (nI l.length) (nI s) S) fu (0 : Int32) = some (nI k) ∧ k ≤ l.length ∧ (k = l.length ↔ stB (tName T i) l s = true) := by
  have hi61 := tOk_lt hT hi
  have hn10 := (hT.2.2.2.2.1 i hi).1
  obtain ⟨r, e, k, rfl, hk, hr⟩ := iter_fu (F := F_X8_nameContains_20 t (nI i) (c1 + 4) (nI (10 * c)) (nI l.length) (nI s) S) (s := (0 : Int32)) (fun k x => x = nI k ∧ ∀ j, j < k → (tName T i).getD (s + j) 0 = l.getD j 0) (P := fun r => ∃ k, r = nI k ∧ k ≤ l.length ∧ (k = l.length ↔ stB (tName T i) l s = true)) l.length (by omega) ⟨rfl, fun j hj => absurd hj (Nat.not_lt_zero _)⟩
    (by
      rintro x ⟨rfl, hj⟩
      unfold F_X8_nameContains_20
      rw [if_pos (nI_le (Nat.le_refl _) (by omega))]
      refine ⟨_, rfl, _, rfl, Nat.le_refl _, ⟨fun _ => ?_, fun _ => rfl⟩⟩
      unfold stB
      rw [decide_eq_true hs, Bool.true_and, List.all_eq_true]
      exact fun j z => decide_eq_true (hj j (List.mem_range.mp z)))
    (by
      rintro k x hk ⟨rfl, hj⟩
      unfold F_X8_nameContains_20
      rw [if_neg (nI_ge hk (by omega)), nI_add, c_letter h hT hi61 (by omega) hi (getD_some (show s + k < (tName T i).length by omega)), Option.bind_some, nI_add, s1_r3 hs1 (by omega), Option.bind_some, h18 k _ (getD_some hk)]
      by_cases q : (tName T i).getD (s + k) 0 = l.getD k 0
      · rw [if_neg (fun z => z q), nI_1]
        refine ⟨_, rfl, rfl, fun j hj2 => ?_⟩
        rcases Nat.lt_succ_iff_lt_or_eq.mp hj2 with z | z
        · exact hj j z
        · rw [z]; exact q
      · rw [if_pos q]
        refine ⟨_, rfl, k, rfl, by omega, ⟨fun z => by omega, fun z => ?_⟩⟩
        unfold stB at z
        rw [Bool.and_eq_true, List.all_eq_true] at z
        exact absurd (of_decide_eq_true (z.2 k (List.mem_range.mpr hk))) q)
  exact ⟨k, e, hk, hr⟩
theorem c_nameContains (h : TR S t T) (hT : tOk T) (hs1 : Sh S c1 sp1) {i c : Nat} {l : List Int32} (hi : tPres T i = true) (hc : c < 5) (hl : l.length ≤ 10) (h18 : ∀ (k : Nat) x, l[k]? = some x → cI (S.2 (c1 + 4)) (10 * c + k) = x) : F_X8_nameContains S t (nI i) (c1 + 4) (nI (10 * c)) (nI l.length) = some (if conB (tName T i) l = true then 1 else 0) := by
  unfold F_X8_nameContains
  have hi61 := tOk_lt hT hi
  have hn10 := (hT.2.2.2.2.1 i hi).1
  have nm := (h.2.2.2 i hi).2.2.2.2.2.2.1
  obtain ⟨r, e, hr⟩ := iter_fu (F := F_X8_nameContains_3 t (nI i) (c1 + 4) (nI (10 * c)) (nI l.length) S) (s := (0 : Int32)) (fun k x => x = nI k ∧ ∀ s, s < k → stB (tName T i) l s = false) (P := fun r => (r = .inl () ∧ conB (tName T i) l = true) ∨ (r = .inr () ∧ conB (tName T i) l = false)) ((tName T i).length + 1) (by omega) ⟨rfl, fun s hs => absurd hs (Nat.not_lt_zero _)⟩
    (by
      rintro x ⟨rfl, hs⟩
      unfold F_X8_nameContains_3
      rw [s8_g2 h.1, Option.bind_some, s8_r2 h.1 hi61, Option.bind_some, nm, nI_add, if_pos (nI_lt (by omega) (by omega))]
      refine ⟨_, rfl, Or.inr ⟨rfl, ?_⟩⟩
      unfold conB
      rw [List.any_eq_false]
      intro s z
      rw [hs s (List.mem_range.mp z)]
      decide)
    (by
      rintro k x hk ⟨rfl, hs⟩
      unfold F_X8_nameContains_3
      rw [s8_g2 h.1, Option.bind_some, s8_r2 h.1 hi61, Option.bind_some, nm, nI_add]
      by_cases g : (tName T i).length < k + l.length
      · rw [if_pos (nI_lt g (by omega))]
        refine ⟨_, rfl, Or.inr ⟨rfl, ?_⟩⟩
        unfold conB
        rw [List.any_eq_false]
        intro s z
        by_cases y : s < k
        · rw [hs s y]; decide
        · unfold stB
          rw [decide_eq_false (show ¬ s + l.length ≤ (tName T i).length by omega)]
          exact Bool.false_ne_true
      · obtain ⟨u, eu, hu, hu2⟩ := c_nc20 h hT hs1 hi hc hl (show k + l.length ≤ (tName T i).length by omega) h18
        rw [if_neg (nI_nlt (by omega) (by omega)), eu, Option.bind_some]
        unfold F_X8_nameContains_52
        by_cases y : u = l.length
        · rw [if_neg (fun z => z (by rw [y]))]
          refine ⟨_, rfl, Or.inl ⟨rfl, ?_⟩⟩
          unfold conB
          rw [List.any_eq_true]
          exact ⟨k, List.mem_range.mpr hk, hu2.mp y⟩
        · rw [if_pos (fun z => y ((nI_eq (by omega) (by omega)).mp z)), nI_1]
          refine ⟨_, rfl, rfl, fun s hs2 => ?_⟩
          rcases Nat.lt_succ_iff_lt_or_eq.mp hs2 with z | z
          · exact hs s z
          · rw [z]
            cases w : stB (tName T i) l k
            · rfl
            · exact absurd (hu2.mpr w) y)
  rw [s8_oF h.1, e, Option.bind_some]
  rcases hr with ⟨rfl, w⟩ | ⟨rfl, w⟩
  · rw [w]; rfl
  · rw [w]; rfl
theorem c_many (hk : SK S b T) (hT : tOk T) : ∃ x, F_X6_itemsWithManyPlaces S b = some x ∧ ∀ i, tPres T i = true → lb x i = decide (¬ nI (plcT T i) ≤ 1) := by
  unfold F_X6_itemsWithManyPlaces
  have hl := ord_len hT
  obtain ⟨r, e, hr⟩ := iter_fu (F := F_X6_itemsWithManyPlaces_4 b S) (s := ((0 : Int64), (0 : Int32))) (fun k x => x.2 = nI k ∧ ∀ i, i ∈ (ordT T).take k → lb x.1 i = decide (¬ nI (plcT T i) ≤ 1)) (P := fun r => ∀ i, i ∈ ordT T → lb r i = decide (¬ nI (plcT T i) ≤ 1)) (ordT T).length (by omega) ⟨rfl, fun i hi => by simp at hi⟩
    (by
      rintro ⟨x, y⟩ ⟨hy, hs⟩
      have hy' : y = nI (ordT T).length := hy
      subst hy'
      unfold F_X6_itemsWithManyPlaces_4
      rw [s6_g3 hk.1, Option.bind_some, hk.2.1, if_pos (nI_le (Nat.le_refl _) (by omega))]
      rw [List.take_length] at hs
      exact ⟨_, rfl, hs⟩)
    (by
      rintro k ⟨x, y⟩ hk' ⟨hy, hs⟩
      have hy' : y = nI k := hy
      subst hy'
      have e1 : (ordT T)[k]? = some (ordT T)[k] := List.getElem?_eq_getElem hk'
      have hc := tOk_lt hT ((ord_mem hT _).mp (List.getElem_mem hk'))
      generalize (ordT T)[k] = c at *
      have fin : ∀ bb : Bool, bb = decide (¬ nI (plcT T c) ≤ 1) → ∀ i, i ∈ (ordT T).take (k + 1) → lb (withL x c bb) i = decide (¬ nI (plcT T i) ≤ 1) := by
        rintro bb rfl i hi
        have hi61 : i < 61 := tOk_lt hT ((ord_mem hT _).mp (List.mem_of_mem_take hi))
        rw [lb_withL _ _ (by omega) (by omega)]
        by_cases z : i = c
        · rw [if_pos z, z]
        · rw [if_neg z]
          rw [List.take_add_one, e1] at hi
          rcases List.mem_append.mp hi with w | w
          · exact hs i w
          · exact absurd (by simpa using w) z
      unfold F_X6_itemsWithManyPlaces_4 F_X6_itemsWithManyPlaces_39
      rw [s6_g3 hk.1, Option.bind_some, hk.2.1, if_neg (nI_ge hk' (by omega)), s6_g2 hk.1, Option.bind_some, s6_r2 hk.1 (by omega), Option.bind_some, hk.2.2.1 k c e1, s6_g4 hk.1, Option.bind_some, Option.bind_some, s6_r2 hk.1 (by omega), Option.bind_some, hk.2.2.1 k c e1, s6_r4 hk.1 hc, Option.bind_some, (hk.2.2.2.1 c hc).2.1]
      by_cases y : nI (plcT T c) ≤ 1
      · rw [if_pos y, with_0, Option.bind_some, nI_1]
        exact ⟨_, rfl, rfl, fin false (by rw [decide_eq_false (fun z => z y)])⟩
      · rw [if_neg y, with_1, Option.bind_some, nI_1]
        exact ⟨_, rfl, rfl, fin true (by rw [decide_eq_true y])⟩)
  rw [s6_oF hk.1, e, Option.bind_some]
  exact ⟨_, rfl, fun i hi => hr i ((ord_mem hT i).mpr hi)⟩
end CFI
