/-! the class: isConsistent -/
section CCO
variable {S : pS} {R : Nat → Option Nat} {c1 c2 a b : Nat} {T : Tr} {A : As}
theorem c_soundKids (h : TR S a T) (hT : tOk T) {i : Nat} (hi : i < 61) : iter (F_X8_hasSoundChildren_13 a (nI i) S) fu ((1 : Int64), (0 : Int32)) = some (.inr ()) := by
  by_cases hp : tPres T i = true
  · have h12 := (hT.2.2.2.1 i hp).1
    have hnd := (hT.2.2.2.1 i hp).2.1
    obtain ⟨r, e, hr⟩ := iter_fu (F := F_X8_hasSoundChildren_13 a (nI i) S) (s := ((1 : Int64), (0 : Int32))) (fun k s => s.2 = nI k ∧ ∀ j, j < 64 → lb s.1 j = true → j = 0 ∨ j ∈ (tKids T i).take k) (P := fun r => r = .inr ()) (tKids T i).length (by omega) ⟨rfl, fun j hj hb => by
        rw [lb_1] at hb
        exact Or.inl (of_decide_eq_true hb)⟩
      (by
        rintro ⟨x, y⟩ ⟨hy, hs⟩
        have hy' : y = nI (tKids T i).length := hy
        subst hy'
        unfold F_X8_hasSoundChildren_13
        rw [c_holds_n h hi, Option.bind_some, ite1 hp, s8_g0 h.1, Option.bind_some, s8_r0 h.1 hi, Option.bind_some, (h.2.2.2 i hp).2.2.2.2.1, if_pos (nI_le (Nat.le_refl _) (by omega))]
        exact ⟨_, rfl, rfl⟩)
      (by
        rintro k ⟨x, y⟩ hk ⟨hy, hs⟩
        have hy' : y = nI k := hy
        subst hy'
        have e1 : (tKids T i)[k]? = some (tKids T i)[k] := List.getElem?_eq_getElem hk
        have hm := List.getElem_mem hk
        generalize hc : (tKids T i)[k] = c at *
        obtain ⟨kp, k0, ki, k61⟩ := tOk_kid hT hp hm
        have hnb : lb x c = false := by
          cases ex : lb x c
          · rfl
          · rcases hs c (by omega) ex with z | z
            · exact absurd z k0
            · obtain ⟨j, hj, hj2⟩ := List.mem_iff_getElem.mp z
              rw [List.length_take] at hj
              rw [List.getElem_take] at hj2
              exact absurd (hj2.trans hc.symm) (List.pairwise_iff_getElem.mp hnd j k (by omega) hk (by omega))
        unfold F_X8_hasSoundChildren_13
        rw [c_holds_n h hi, Option.bind_some, ite1 hp, s8_g0 h.1, Option.bind_some, s8_r0 h.1 hi, Option.bind_some, (h.2.2.2 i hp).2.2.2.2.1, if_neg (nI_ge hk (by omega)), c_childAt h hi (by omega) hp e1, Option.bind_some, c_holds_n h k61, Option.bind_some, ite1 kp, contains_eq S _ (by omega), Option.bind_some, ite0 hnb, with_1, Option.bind_some, nI_1]
        refine ⟨_, rfl, rfl, fun j hj hb => ?_⟩
        rw [lb_withL _ _ (by omega) hj] at hb
        by_cases d : j = c
        · subst d
          refine Or.inr ?_
          rw [← hc]
          exact List.mem_iff_getElem.mpr ⟨k, by rw [List.length_take]; omega, by rw [List.getElem_take]⟩
        · rw [if_neg d] at hb
          rcases hs j hj hb with z | z
          · exact Or.inl z
          · exact Or.inr ((List.take_subset_take_left _ (Nat.le_succ k)) z))
    rw [e, hr]
  · have hp' : tPres T i = false := by simpa using hp
    obtain ⟨r, e, hr⟩ := iter_fu (F := F_X8_hasSoundChildren_13 a (nI i) S) (s := ((1 : Int64), (0 : Int32))) (fun _ _ => True) (P := fun r => r = .inr ()) 0 (by decide) trivial
      (by
        rintro s -
        unfold F_X8_hasSoundChildren_13
        rw [c_holds_n h hi, Option.bind_some, ite0 hp']
        exact ⟨_, rfl, rfl⟩)
      (by rintro k s hk; omega)
    rw [e, hr]
theorem c_sound (h : TR S a T) (hT : tOk T) : F_X8_hasSoundChildren S a = some 1 := by
  unfold F_X8_hasSoundChildren
  obtain ⟨r, e, hr⟩ := iter_fu (F := F_X8_hasSoundChildren_2 a S) (s := (0 : Int32)) (fun k s => s = nI k) (P := fun r => r = .inr ()) 61 (by decide) rfl
    (by
      rintro s rfl
      unfold F_X8_hasSoundChildren_2
      rw [if_pos le61]
      exact ⟨_, rfl, rfl⟩)
    (by
      rintro k s hk rfl
      unfold F_X8_hasSoundChildren_2
      rw [if_neg (ge61 hk), c_soundKids h hT hk, Option.bind_some]
      refine ⟨_, rfl, ?_⟩
      rw [nI_1]; rfl)
  rw [s8_oF h.1, e, Option.bind_some, hr]; rfl
theorem c_hasPar (h : TR S a T) (hT : tOk T) (hk : SK S b T) : F_X8_hasParentsAs S a b = some 1 := by
  unfold F_X8_hasParentsAs
  obtain ⟨r, e, hr⟩ := iter_fu (F := F_X8_hasParentsAs_2 a b S) (s := (0 : Int32)) (fun k s => s = nI k) (P := fun r => r = .inr ()) 61 (by decide) rfl
    (by
      rintro s rfl
      unfold F_X8_hasParentsAs_2
      rw [if_pos le61]
      exact ⟨_, rfl, rfl⟩)
    (by
      rintro k s hk' rfl
      unfold F_X8_hasParentsAs_2
      rw [if_neg (ge61 hk'), c_holds_n h hk', Option.bind_some]
      by_cases hp : tPres T k = true
      · rw [ite1 hp, c_countParents h hT hk', Option.bind_some, c_parentsOf hk hk', Option.bind_some, if_pos rfl]
        refine ⟨_, rfl, ?_⟩
        rw [nI_1]; rfl
      · rw [ite0 (by simpa using hp)]
        refine ⟨_, rfl, ?_⟩
        rw [nI_1]; rfl)
  rw [s8_oF h.1, e, Option.bind_some, hr]; rfl
theorem c_sumPlaces (h : TR S a T) (hT : tOk T) (hk : SK S b T) : F_X6_sumOfPlaces S b a = some (nI (wayT T 0)) := by
  unfold F_X6_sumOfPlaces
  obtain ⟨r, e, hr⟩ := iter_fu (F := F_X6_sumOfPlaces_4 b a S) (s := ((0 : Int32), (1 : Int32))) (fun i s => s = (nI ((List.range' 1 i).map fun i => if tPres T i = true then plcT T i else 0).sum, nI (1 + i))) (P := fun r => r = nI (allP T)) 60 (by decide) rfl
    (by
      rintro s rfl
      unfold F_X6_sumOfPlaces_4
      rw [if_pos le61]
      exact ⟨_, rfl, rfl⟩)
    (by
      rintro i s hi rfl
      have er : List.range' 1 (i + 1) = List.range' 1 i ++ [1 + i] := by
        have := List.range'_concat (step := 1) (s := 1) (n := i)
        rw [Nat.one_mul] at this
        exact this
      unfold F_X6_sumOfPlaces_4
      rw [if_neg (ge61 (show 1 + i < 61 by omega))]
      dsimp only
      rw [c_holds_n h (show 1 + i < 61 by omega), Option.bind_some, er, List.map_append, List.sum_append]
      by_cases hp : tPres T (1 + i) = true
      · rw [ite1 hp, s6_g4 hk.1, Option.bind_some, s6_r4 hk.1 (show 1 + i < 61 by omega), Option.bind_some, (hk.2.2.2.1 _ (show 1 + i < 61 by omega)).2.1, nI_add, nI_1]
        refine ⟨_, rfl, ?_⟩
        show _ = _
        simp only [List.map_cons, List.map_nil, List.sum_cons, List.sum_nil, if_pos hp, Nat.add_zero, Nat.add_assoc]
      · rw [ite0 (by simpa using hp), li_0, nI_add, nI_1]
        refine ⟨_, rfl, ?_⟩
        show _ = _
        simp only [List.map_cons, List.map_nil, List.sum_cons, List.sum_nil, if_neg hp, Nat.add_zero, Nat.add_assoc])
  rw [s6_oF hk.1, e, Option.bind_some, hr, allP_way hT]
theorem c_isConsistent (h : CSr S A R c1 c2) (hA : aOk A) : cP S (F_X9_isConsistent S 0) (A, 0, 1) := by
  unfold F_X9_isConsistent
  obtain ⟨t, ht⟩ := cs_t h
  have hT := hA.1.1
  have h0 := h
  have htp := (h.2.1.1 0 t (by omega) ht).1
  have hcc : (c1 = 35 ∧ c2 = 41) ∨ (c1 = 41 ∧ c2 = 35) := h.2.2.2.2.2.2.2.2.2.2.1
  have hs := h.2.2.2.2.2.2.2.1
  have h111 := h.1.1
  have htr := h.2.2.2.2.2.2.2.2.1.1 t ht
  obtain ⟨S1, e, m1, k1⟩ := c_measure hs.1 htr (by omega) hT
  have fr : ∀ q, ¬ (23 ≤ q ∧ q < 31) → S1.2 q = S.2 q := fun q hq => m1.2.2.1 q (by omega)
  have n1 : S1.1 = S.1 := m1.2.1
  have hs1 : SC S1 c2 := by
    obtain ⟨-, z1, z2, z3, z4, z5⟩ := hs
    exact ⟨m1.1, sh_fr z1 (by omega) (fun q q1 q2 => fr q (by omega)), sh_fr z2 (by omega) (fun q q1 q2 => fr q (by omega)), sh_fr z3 (by omega) (fun q q1 q2 => fr q (by omega)), rawA_fr z4 (by omega) (fr 66 (by omega)), rawA_fr z5 (by omega) (fr 67 (by omega))⟩
  have h1 : CSr S1 A R c1 c2 := CSr_fr h (by omega) hs1 (fun d hd => sh_fr (h.2.1.1 1 d (by omega) hd).2 (by omega) (fun q q1 q2 => fr q (by have := (h.2.1.1 1 d (by omega) hd).1; have : sp8.length = 7 := rfl; omega))) (fun q q1 q2 => fr q (fun z => q2 (Or.inl z)))
  have t1 := h1.2.2.2.2.2.2.2.2.1.1 t ht
  have eo : F_X6_ordersAll S1 23 t = some 1 := by
    unfold F_X6_ordersAll
    rw [s6_oF k1.1, s6_g3 k1.1, Option.bind_some, k1.2.1, c_countItems t1 hT, Option.bind_some, (ord_perm hT).length_eq, if_neg (fun z => z rfl)]
  have ef : famT (aT A) 0 = fJ (S1.2 t) 6 := lb_ext (fun i hi => by
    rw [t1.2.2.1 i hi]
    cases ep : tPres (aT A) i
    · cases el : lb (famT (aT A) 0) i
      · rfl
      · rw [fam_pres hT 0 hT.1 i hi el] at ep
        cases ep
    · exact fam_root hT hA.1.2.1 i ep)
  have efam : F_X6_familyOf S1 23 (0 : Int32) = some (famT (aT A) 0) := c_familyOf k1 (i := 0) (by decide) hT.1
  have epl : F_X6_placesBelow S1 23 (0 : Int32) = some (nI (wayT (aT A) 0)) := c_placesBelow k1 (i := 0) (by decide) hT.1
  rw [x_oF h.1, (x_gs h.1).2.1, Option.bind_some, x_g0 h.1 ht, Option.bind_some, e, Option.bind_some, (x_gs h1.1).2.1, Option.bind_some, x_g0 h1.1 ht, Option.bind_some, eo, Option.bind_some, if_neg (by decide), Option.bind_some, efam, Option.bind_some, Option.bind_some, c_present t1, Option.bind_some, if_neg (fun z => z ((lg_cmp0 _ _).mpr ef)), Option.bind_some, c_sound t1 hT, Option.bind_some, if_neg (by decide), Option.bind_some, Option.bind_some, c_hasPar t1 hT k1, Option.bind_some, if_neg (by decide), Option.bind_some, Option.bind_some, c_sumPlaces t1 hT k1, Option.bind_some, Option.bind_some, epl, Option.bind_some, if_neg (fun z => z rfl)]
  exact ⟨S1, ⟨by omega, fun q q1 q2 => fr q (by omega)⟩, ⟨R, c1, c2, h1⟩, rfl⟩
end CCO
