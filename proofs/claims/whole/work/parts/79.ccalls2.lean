/-! the class's calls: numbers, flags, links -/
section CCB
variable {S : pS} {R : Nat → Option Nat} {c1 c2 : Nat} {T : Tr} {A : As} {nm : Int32 → String}
def eN2 (b : String) : Int32 → String := fun k => if k = 1 then nNSE else b
def eN3 (b c : String) : Int32 → String := fun k => if k = 1 then nNSE else if k = 2 then b else c
theorem cs_of {S1 : pS} {A' : As} (h : CSr S1 A' R c1 c2) : CS S1 A' := ⟨R, c1, c2, h⟩
theorem cs_tr (h : CSr S A R c1 c2) {t : Nat} (ht : R 0 = some t) : TR S t (aT A) := h.2.2.2.2.2.2.2.2.1.1 t ht
theorem cs_sk (h : CSr S A R c1 c2) : SK S 15 (aT A) := h.2.2.2.2.2.2.2.2.2.1
theorem c_setNumber (h : CSr S A R c1 c2) (hA : aOk A) (x d n : Int32) : cC S (eN2 nIAE) (F_X9_setNumber S 0 x d n) (stSetNum A x d n) := by
  unfold F_X9_setNumber stSetNum
  have hT := hA.1.1
  rw [x_oF h.1, c_needItem h, Option.bind_some]
  rcases itN_c hT x with ⟨i, hi, rfl, hp, e, e3⟩ | ⟨e, e3⟩
  · rw [e, e3, if_pos rfl]
    simp only [Sum.elim_inl]
    obtain ⟨t, dd, S1, ht, hd, g0, g1, e1, h1, f1, t1, g1'⟩ := c_copyD h hA
    have hTt := cs_tr h ht
    by_cases c : d = 0
    · rw [if_pos c, if_pos c]
      unfold F_X9_setNumber_16
      rw [if_pos c]
      unfold F_X9_setNumber_31 F_X9_setNumber_45
      by_cases k1 : n < -999
      · rw [if_pos k1, if_pos (Or.inl k1)]
        exact cC_x (Fm_refl _) (cs_of h) (by decide) rfl
      · rw [if_neg k1]
        by_cases k2 : 999 < n
        · rw [if_neg (Int32.not_le.mpr k2), if_pos (Or.inr k2)]
          exact cC_x (Fm_refl _) (cs_of h) (by decide) rfl
        · rw [if_pos (Int32.not_lt.mp k2), if_neg (show ¬ (n < -999 ∨ 999 < n) from fun z => z.elim k1 k2), if_pos c, g0, Option.bind_some, c_value hTt hi hp, Option.bind_some]
          unfold F_X9_setNumber_78
          obtain ⟨S2, e2, t2, b2⟩ := c_setValue t1 hT hp n
          obtain ⟨h2, f2⟩ := c_draft h1 hd b2 t2.1
          obtain ⟨S3, e3, h3, f3⟩ := c_adopt h2 hA hd t2 (good_cg hA.1 rfl rfl rfl (fun i hi => hA.1.1.2.2.2.2.1 i hi)).1
          rw [g1, Option.bind_some, g0, Option.bind_some, e1, Option.bind_some, if_pos c, g1', Option.bind_some, e2, Option.bind_some]
          unfold F_X9_setNumber_116
          rw [e3, Option.bind_some]
          exact cC_ok (Fm_trans f1 (Fm_trans f2 f3)) h3
    · rw [if_neg c, if_neg c]
      unfold F_X9_setNumber_16
      rw [if_neg c]
      unfold F_X9_setNumber_31 F_X9_setNumber_45
      by_cases k1 : n < -1
      · rw [if_pos k1, if_pos (Or.inl k1)]
        exact cC_x (Fm_refl _) (cs_of h) (by decide) rfl
      · rw [if_neg k1]
        by_cases k2 : 9999 < n
        · rw [if_neg (Int32.not_le.mpr k2), if_pos (Or.inr k2)]
          exact cC_x (Fm_refl _) (cs_of h) (by decide) rfl
        · rw [if_pos (Int32.not_lt.mp k2), if_neg (show ¬ (n < -1 ∨ 9999 < n) from fun z => z.elim k1 k2), if_neg c, g0, Option.bind_some, c_day hTt hi hp, Option.bind_some]
          unfold F_X9_setNumber_78
          obtain ⟨S2, e2, t2, b2⟩ := c_setDay t1 hT hp n
          obtain ⟨h2, f2⟩ := c_draft h1 hd b2 t2.1
          obtain ⟨S3, e3, h3, f3⟩ := c_adopt h2 hA hd t2 (good_cg hA.1 rfl rfl rfl (fun i hi => hA.1.1.2.2.2.2.1 i hi)).1
          rw [g1, Option.bind_some, g0, Option.bind_some, e1, Option.bind_some, if_neg c, g1', Option.bind_some, e2, Option.bind_some]
          unfold F_X9_setNumber_116
          rw [e3, Option.bind_some]
          exact cC_ok (Fm_trans f1 (Fm_trans f2 f3)) h3
  · rw [e, e3, if_neg (by decide)]
    simp only [Sum.elim_inr]
    exact cC_x (Fm_refl _) (cs_of h) (by decide) rfl
theorem c_setFlag (h : CSr S A R c1 c2) (hA : aOk A) (x d n : Int32) : cC S (eN2 nIAE) (F_X9_setFlag S 0 x d n) (stSetFlag A x d n) := by
  unfold F_X9_setFlag stSetFlag
  have hT := hA.1.1
  rw [x_oF h.1, c_needItem h, Option.bind_some]
  rcases itN_c hT x with ⟨i, hi, rfl, hp, e, e3⟩ | ⟨e, e3⟩
  · rw [e, e3, if_pos rfl]
    simp only [Sum.elim_inl]
    obtain ⟨t, dd, S1, ht, hd, g0, g1, e1, h1, f1, t1, g1'⟩ := c_copyD h hA
    have hTt := cs_tr h ht
    have hw := hTt.2.2.2 i hp
    by_cases c : d = 0
    · rw [if_pos c, if_pos c, g0, Option.bind_some, c_done hTt, Option.bind_some]
      unfold F_X9_setFlag_26
      rw [contains_eq _ _ (by omega), Option.bind_some, hw.1, g1, Option.bind_some, g0, Option.bind_some, e1, Option.bind_some, if_pos c, g1', Option.bind_some]
      obtain ⟨S2, e2, t2, b2⟩ := c_setDone t1 hT hp n
      obtain ⟨h2, f2⟩ := c_draft h1 hd b2 t2.1
      obtain ⟨S3, e3, h3, f3⟩ := c_adopt h2 hA hd t2 (good_cg hA.1 rfl rfl rfl (fun i hi => hA.1.1.2.2.2.2.1 i hi)).1
      rw [e2, Option.bind_some]
      unfold F_X9_setFlag_68
      rw [e3, Option.bind_some, oZ_b, Option.bind_some]
      exact cC_ok (Fm_trans f1 (Fm_trans f2 f3)) h3
    · rw [if_neg c, if_neg c, g0, Option.bind_some, c_folded hTt, Option.bind_some]
      unfold F_X9_setFlag_26
      rw [contains_eq _ _ (by omega), Option.bind_some, hw.2.1, g1, Option.bind_some, g0, Option.bind_some, e1, Option.bind_some, if_neg c, g1', Option.bind_some]
      obtain ⟨S2, e2, t2, b2⟩ := c_setFolded t1 hT hp n
      obtain ⟨h2, f2⟩ := c_draft h1 hd b2 t2.1
      obtain ⟨S3, e3, h3, f3⟩ := c_adopt h2 hA hd t2 (good_cg hA.1 rfl rfl rfl (fun i hi => hA.1.1.2.2.2.2.1 i hi)).1
      rw [e2, Option.bind_some]
      unfold F_X9_setFlag_68
      rw [e3, Option.bind_some, oZ_b, Option.bind_some]
      exact cC_ok (Fm_trans f1 (Fm_trans f2 f3)) h3
  · rw [e, e3, if_neg (by decide)]
    simp only [Sum.elim_inr]
    exact cC_x (Fm_refl _) (cs_of h) (by decide) rfl
theorem c_parentsOf {b : Nat} (h : SK S b T) {i : Nat} (hi : i < 61) : F_X6_parentsOf S b (nI i) = some (nI (par T i).length) := by
  unfold F_X6_parentsOf
  rw [s6_oF h.1, s6_g0 h.1, Option.bind_some, s6_r0 h.1 hi, Option.bind_some, (h.2.2.2.1 i hi).1]
theorem c_placesOf {b : Nat} (h : SK S b T) {i : Nat} (hi : i < 61) : F_X6_placesOf S b (nI i) = some (nI (plcT T i)) := by
  unfold F_X6_placesOf
  rw [s6_oF h.1, s6_g4 h.1, Option.bind_some, s6_r4 h.1 hi, Option.bind_some, (h.2.2.2.1 i hi).2.1]
theorem c_placesBelow {b : Nat} (h : SK S b T) {i : Nat} (hi : i < 61) (hp : tPres T i = true) : F_X6_placesBelow S b (nI i) = some (nI (wayT T i)) := by
  unfold F_X6_placesBelow
  rw [s6_oF h.1, s6_g6 h.1, Option.bind_some, s6_r6 h.1 hi, Option.bind_some, (h.2.2.2.2 i hp).1]
theorem c_familyOf {b : Nat} (h : SK S b T) {i : Nat} (hi : i < 61) (hp : tPres T i = true) : F_X6_familyOf S b (nI i) = some (famT T i) := by
  unfold F_X6_familyOf
  rw [s6_oF h.1, s6_g7 h.1, Option.bind_some, s6_r7 h.1 hi, Option.bind_some, (h.2.2.2.2 i hp).2]
theorem par_len (T : Tr) (i : Nat) : (par T i).length ≤ 61 := by
  have := List.length_filter_le (fun p => tPres T p && (tKids T p).contains i) (List.range 61)
  rw [List.length_range] at this
  exact this
theorem c_related (h : CSr S A R c1 c2) (hA : aOk A) (x y p : Int32) : cC S (eN2 nIOO) (F_X9_related S 0 x y p) (stRelated A x y p) := by
  unfold F_X9_related stRelated
  have hT := hA.1.1
  obtain ⟨t, ht⟩ := cs_t h
  have hTt := cs_tr h ht
  rw [x_oF h.1, c_needItem h, Option.bind_some]
  rcases itN_c hT x with ⟨i, hi, rfl, hp, e, e3⟩ | ⟨e, e3⟩
  · rw [e, e3, if_pos rfl]
    simp only [Sum.elim_inl]
    have h12 := (hT.2.2.2.1 i hp).1
    have hpl := par_len (aT A) i
    by_cases c : p = 0
    · rw [if_pos c, if_neg (fun z => z c), x_g0 h.1 ht, Option.bind_some, c_count hTt hi hp, Option.bind_some]
      unfold F_X9_related_30
      rw [c_needIndex h _ (by omega), Option.bind_some]
      rcases ixN_c y (n := (tKids (aT A) i).length) (by omega) with ⟨j, hj, rfl, ej⟩ | ⟨ej, -⟩
      · rw [ej, if_pos (show (some j).isSome = true from rfl)]
        simp only [Sum.elim_inl]
        rw [if_pos c, x_g0 h.1 ht, Option.bind_some, c_childAt hTt hi (by omega) hp (List.getElem?_eq_getElem hj), Option.bind_some]
        have : (tKids (aT A) i).getD j 0 = (tKids (aT A) i)[j] := by rw [List.getD_eq_getElem?_getD, List.getElem?_eq_getElem hj]; rfl
        rw [← this]
        exact cC_ok (Fm_refl _) (cs_of h)
      · rw [ej, if_neg (show ¬ (none : Option Nat).isSome = true by decide)]
        simp only [Sum.elim_inr]
        exact cC_x (Fm_refl _) (cs_of h) (by decide) rfl
    · rw [if_neg c, if_pos c, (x_gs h.1).1, Option.bind_some, c_parentsOf (cs_sk h) hi, Option.bind_some]
      unfold F_X9_related_30
      rw [c_needIndex h _ (by omega), Option.bind_some]
      rcases ixN_c y (n := (par (aT A) i).length) (by omega) with ⟨j, hj, rfl, ej⟩ | ⟨ej, -⟩
      · rw [ej, if_pos (show (some j).isSome = true from rfl)]
        simp only [Sum.elim_inl]
        rw [if_neg c, x_g0 h.1 ht, Option.bind_some, c_parentAt hTt hT hi (List.getElem?_eq_getElem hj), Option.bind_some]
        have : (par (aT A) i).getD j 0 = (par (aT A) i)[j] := by rw [List.getD_eq_getElem?_getD, List.getElem?_eq_getElem hj]; rfl
        rw [← this]
        exact cC_ok (Fm_refl _) (cs_of h)
      · rw [ej, if_neg (show ¬ (none : Option Nat).isSome = true by decide)]
        simp only [Sum.elim_inr]
        exact cC_x (Fm_refl _) (cs_of h) (by decide) rfl
  · rw [e, e3, if_neg (by decide)]
    simp only [Sum.elim_inr]
    exact cC_x (Fm_refl _) (cs_of h) (by decide) rfl
theorem c_letterC (h : CSr S A R c1 c2) (hA : aOk A) (x y : Int32) : cC S (eN2 nIOO) (F_X9_letter S 0 x y) (stLetter A x y) := by
  unfold F_X9_letter stLetter
  have hT := hA.1.1
  obtain ⟨t, ht⟩ := cs_t h
  have hTt := cs_tr h ht
  rw [x_oF h.1, c_needNamed h, Option.bind_some]
  by_cases c : x = 0
  · rw [if_neg (fun z => z.1 c), if_pos c]
    simp only [Sum.elim_inr]
    exact cC_x (Fm_refl _) (cs_of h) (by decide) rfl
  · rw [if_neg (c := x = 0) c]
    rcases itN_c hT x with ⟨i, hi, rfl, hp, e, e3⟩ | ⟨e, e3⟩
    · rw [e, if_pos ⟨c, e3⟩]
      simp only [Sum.elim_inl]
      have h10 := (hT.2.2.2.2.1 i hp).1
      rw [x_g0 h.1 ht, Option.bind_some, c_nameLen hTt hi hp, Option.bind_some, c_needIndex h _ (by omega), Option.bind_some]
      rcases ixN_c y (n := (tName (aT A) i).length) (by omega) with ⟨j, hj, rfl, ej⟩ | ⟨ej, -⟩
      · rw [ej, if_pos (show (some j).isSome = true from rfl)]
        simp only [Sum.elim_inl]
        have hx := List.getElem?_eq_getElem hj
        have hch := (hT.2.2.2.2.1 i hp).2 _ (List.getElem_mem hj)
        rw [x_g0 h.1 ht, Option.bind_some, c_letter hTt hT hi (by omega) hp hx, Option.bind_some, oC_ok hch, Option.bind_some]
        have : (tName (aT A) i).getD j 0 = (tName (aT A) i)[j] := by rw [List.getD_eq_getElem?_getD, hx]; rfl
        rw [← this]
        exact cC_ok (Fm_refl _) (cs_of h)
      · rw [ej, if_neg (show ¬ (none : Option Nat).isSome = true by decide)]
        simp only [Sum.elim_inr]
        exact cC_x (Fm_refl _) (cs_of h) (by decide) rfl
    · rw [e, if_neg (fun z => by rw [e3] at z; cases z.2)]
      simp only [Sum.elim_inr]
      exact cC_x (Fm_refl _) (cs_of h) (by decide) rfl
theorem c_isBelow (h : CSr S A R c1 c2) (hA : aOk A) (x y : Int32) : cC S (eN2 nIOO) (F_X9_isBelow S 0 x y) (stBelow A x y) := by
  unfold F_X9_isBelow stBelow
  have hT := hA.1.1
  rw [x_oF h.1, c_needItem h, Option.bind_some]
  rcases itN_c hT x with ⟨i, hi, rfl, hp, e, e3⟩ | ⟨e, e3⟩
  · rw [e, e3, if_pos rfl]
    simp only [Sum.elim_inl]
    rw [c_needItem h, Option.bind_some]
    rcases itN_c hT y with ⟨j, hj, rfl, hq, e4, e5⟩ | ⟨e4, e5⟩
    · rw [e4, e5, if_pos rfl]
      simp only [Sum.elim_inl]
      have hfb := fam_bel hT j hq i (by omega)
      by_cases c : i = j
      · have hb : lb (belT (aT A) j) i = false := by
          subst c
          cases eb : lb (belT (aT A) i) i
          · rfl
          · exfalso
            obtain ⟨d, hd, z⟩ := (lb_bel hT hp (by omega)).mp eb
            have hdp := tOk_kid hT hp hd
            have : lb (famT (aT A) d) i = true := (fam_bel hT d hdp.1 i (by omega)).mpr (z.symm)
            -- i is below its own child
            obtain ⟨rk, hr⟩ := hT.2.2.2.2.2
            have key : ∀ p, tPres (aT A) p = true → ∀ k, k < 64 → lb (famT (aT A) p) k = true → rk p ≤ rk k := by
              refine dag_ind hT _ (fun p hp ih k hk z => ?_)
              rcases (lb_fam hT hp hk).mp z with w | ⟨c, hc, w⟩
              · rw [w]; exact Nat.le_refl _
              · exact Nat.le_trans (Nat.le_of_lt (hr p hp c hc)) (ih c hc k hk w)
            have := key d hdp.1 i (by omega) this
            have := hr i hp d hd
            omega
        rw [if_pos (by rw [c]), hb, if_neg (by decide)]
        exact cC_ok (Fm_refl _) (cs_of h)
      · rw [if_neg (fun z => c ((nI_eq (by omega) (by omega)).mp z)), (x_gs h.1).1, Option.bind_some, c_familyOf (cs_sk h) hj hq, Option.bind_some, contains_eq _ _ (by omega), Option.bind_some]
        have : lb (famT (aT A) j) i = lb (belT (aT A) j) i := by
          cases e1 : lb (famT (aT A) j) i <;> cases e2 : lb (belT (aT A) j) i <;> first | rfl | (rw [e1, e2] at hfb; simp [c] at hfb)
        rw [this]
        cases lb (belT (aT A) j) i
        · rw [ite0 rfl, if_neg (by decide)]
          exact cC_ok (Fm_refl _) (cs_of h)
        · rw [ite1 rfl, if_pos rfl]
          exact cC_ok (Fm_refl _) (cs_of h)
    · rw [e4, e5, if_neg (by decide)]
      simp only [Sum.elim_inr]
      exact cC_x (Fm_refl _) (cs_of h) (by decide) rfl
  · rw [e, e3, if_neg (by decide)]
    simp only [Sum.elim_inr]
    exact cC_x (Fm_refl _) (cs_of h) (by decide) rfl
theorem erI_ne {e : Nat} (h : e ≤ 80) : ¬ nI e = (-1000000 : Int32) := fun z => by
  have : nI e < 0 := by rw [z]; decide
  exact nI_pos (by omega) this
theorem c_errorPosition (h : CSr S A R c1 c2) (hA : aOk A) : cC S (fun _ => nISE) (F_X9_errorPosition S 0) (stErr A) := by
  unfold F_X9_errorPosition stErr
  rw [x_oF h.1, (x_gs h.1).2.2.2.2.2.2.2.2.2.2.2.2, Option.bind_some]
  cases e : aEr A with
  | none =>
    unfold erI
    rw [if_neg (fun z => z rfl)]
    exact cC_x (Fm_refl _) (cs_of h) (by decide) rfl
  | some k =>
    unfold erI
    dsimp only
    rw [if_pos (erI_ne (hA.2.2.2.2.2.2.2.2.1 k e)), Option.bind_some]
    exact cC_ok (Fm_refl _) (cs_of h)
theorem c_refusal (h : CSr S A R c1 c2) (hA : aOk A) (x : Int32) : cC S (fun k => if k = 1 then nISE else nIOO) (F_X9_refusal S 0 x) (stRefusal A x) := by
  unfold F_X9_refusal stRefusal
  obtain ⟨n1, n2, n3⟩ := h.2.2.2.2.2.2.1
  have hl := hA.2.2.2.2.2.2.2.2.2.1
  have esz : F_X0_size S 64 = some (nI (aCh A).length) := by
    unfold F_X0_size
    rw [s0_oF n1, s0_g1 n1, Option.bind_some, n2]
  rw [x_oF h.1, (x_gs h.1).2.2.2.2.2.2.2.2.2.1, Option.bind_some, esz, Option.bind_some]
  by_cases c : aCh A = []
  · rw [if_neg (fun z => z (by rw [c]; rfl)), if_pos c]
    exact cC_x (Fm_refl _) (cs_of h) (by decide) rfl
  · rw [if_pos (fun z => c ((nI_len0 _ (by omega)).mp z)), if_neg c, Option.bind_some, esz, Option.bind_some, c_needIndex h _ (by omega), Option.bind_some]
    rcases ixN_c x (n := (aCh A).length) (by omega) with ⟨j, hj, rfl, e⟩ | ⟨e, -⟩
    · rw [e, if_pos (show (some j).isSome = true from rfl)]
      simp only [Sum.elim_inl]
      rw [(x_gs h.1).2.2.2.2.2.2.2.2.2.1, Option.bind_some]
      unfold F_X0_numberAt
      have er : oAI S 65 .int (nI j) = some (cI (S.2 65) j) := s0_r0 n1 (by omega)
      have eg : oGA S 64 0 0 = some 65 := s0_g0 n1
      rw [s0_oF n1, eg, Option.bind_some, er, Option.bind_some, Option.bind_some, n3 j _ (List.getElem?_eq_getElem hj)]
      have : (aCh A).getD j 0 = (aCh A)[j] := by rw [List.getD_eq_getElem?_getD, List.getElem?_eq_getElem hj]; rfl
      rw [← this]
      exact cC_ok (Fm_refl _) (cs_of h)
    · rw [e, if_neg (show ¬ (none : Option Nat).isSome = true by decide)]
      simp only [Sum.elim_inr]
      exact cC_x (Fm_refl _) (cs_of h) (by decide) rfl
end CCB
