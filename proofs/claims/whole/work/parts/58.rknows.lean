/-! the reference finds the order -/
section RKN
variable {S : pS} {m : Nat} {T : Tr}
theorem r_ord7 (h : Sh S m sp10) : ∃ S', iter (F_X10_orders_7 m) fu ((0 : Int32), S) = some S' ∧ MR S S' m [9] [] ∧ ∀ c, c < 61 → cI (S'.2 (m + 9)) c = 0 :=
  iter_fu (F := F_X10_orders_7 m) (s := ((0 : Int32), S)) (fun i s => s.1 = nI i ∧ MR S s.2 m [9] [] ∧ ∀ c, c < i → cI (s.2.2 (m + 9)) c = 0) 61 (by decide) ⟨rfl, MR_refl h _ _, fun c hc => absurd hc (Nat.not_lt_zero _)⟩
    (by
      rintro ⟨b, S1⟩ ⟨h1, h2, h3⟩
      dsimp only at h1 h2 h3
      subst h1
      unfold F_X10_orders_7
      rw [if_pos le61]
      exact ⟨_, rfl, h2, h3⟩)
    (by
      rintro i ⟨b, S1⟩ hi ⟨h1, h2, h3⟩
      dsimp only at h1 h2 h3
      subst h1
      unfold F_X10_orders_7
      rw [if_neg (ge61 hi), s10_g15 h2.1, Option.bind_some, s10_w15 h2.1 hi, Option.bind_some, nI_1]
      refine ⟨_, rfl, rfl, MR_I h2 (by decide) (by decide) (by decide) _ _, fun c hc => ?_⟩
      show cI ((wI S1 (m + 9) i _).2 (m + 9)) c = _
      rw [s10_v15 h2.1]
      by_cases e : c = i
      · rw [e, pu_at]
      · rw [pu_ne _ _ _ e]; exact h3 c (by omega))
theorem r_ord36 (h : RR S m T) (hT : tOk T) {p : Nat} (hp61 : p < 61) (hw : CJ T p [] (cI (S.2 (m + 9)))) : ∃ S', iter (F_X10_orders_36 m (nI p)) fu ((0 : Int32), S) = some S' ∧ MR S S' m [9] [] ∧ CJ T (p + 1) [] (cI (S'.2 (m + 9))) := by
  cases hp : tPres T p
  · refine ⟨S, ?_, MR_refl h.1 _ _, CJ_no hw hp⟩
    have e : F_X10_orders_36 m (nI p) ((0 : Int32), S) = some (.inr S) := by
      unfold F_X10_orders_36
      rw [s10_g1 h.1, Option.bind_some, li_916, nI_add, s10_r1 h.1 (by omega), Option.bind_some]
      by_cases c : cI (S.2 (m + 1)) (916 + p) ≤ ((0 : Int32), S).1
      · rw [if_pos c]
      · rw [if_neg c, Option.bind_some, nI_1l, s10_r1 h.1 (by omega), Option.bind_some, h.2.2.1 p hp61, hp, ite2 rfl]
    show (F_X10_orders_36 m (nI p) ((0 : Int32), S)).bind _ = _
    rw [e]; rfl
  · have h12 := (hT.2.2.2.1 p hp).1
    exact iter_fu (F := F_X10_orders_36 m (nI p)) (s := ((0 : Int32), S)) (fun i s => s.1 = nI i ∧ MR S s.2 m [9] [] ∧ CJ T p ((tKids T p).take i) (cI (s.2.2 (m + 9)))) (tKids T p).length (by omega) ⟨rfl, MR_refl h.1 _ _, by rw [List.take_zero]; exact hw⟩
      (by
        rintro ⟨b, S1⟩ ⟨h1, h2, h3⟩
        dsimp only at h1 h2 h3
        subst h1
        have hR := MR_RR h2 (by decide) h
        unfold F_X10_orders_36
        rw [s10_g1 h2.1, Option.bind_some, li_916, nI_add, s10_r1 h2.1 (by omega), Option.bind_some, r_many hR hp, if_pos (Int32.le_refl _)]
        rw [List.take_length] at h3
        exact ⟨_, rfl, h2, CJ_yes h3 hp⟩)
      (by
        rintro i ⟨b, S1⟩ hi ⟨h1, h2, h3⟩
        dsimp only at h1 h2 h3
        subst h1
        have hR := MR_RR h2 (by decide) h
        have hc : (tKids T p)[i]? = some (tKids T p)[i] := List.getElem?_eq_getElem hi
        have hc61 := (tOk_kid hT hp (List.getElem_mem hi)).2.2.2
        unfold F_X10_orders_36
        rw [s10_g1 h2.1, Option.bind_some, li_916, nI_add, s10_r1 h2.1 (by omega), Option.bind_some, r_many hR hp, if_neg (nI_ge hi (by omega)), Option.bind_some, nI_1l, s10_r1 h2.1 (by omega), Option.bind_some, hR.2.2.1 p hp61, hp, ite3 rfl, s10_g15 h2.1, Option.bind_some,
          r_child hR hp61 (by omega) hp hc, Option.bind_some, s10_r15 h2.1 hc61, Option.bind_some, s10_w15 h2.1 hc61, Option.bind_some]
        refine ⟨_, rfl, nI_1 _, MR_I h2 (by decide) (by decide) (by decide) _ _, ?_⟩
        show CJ T p _ (cI ((wI S1 (m + 9) _ _).2 (m + 9)))
        rw [s10_v15 h2.1]
        exact CJ_step hT hp hc h3)
theorem r_ord28 (h : RR S m T) (hT : tOk T) (hw : ∀ c, c < 61 → cI (S.2 (m + 9)) c = 0) : ∃ S', iter (F_X10_orders_28 m) fu ((0 : Int32), S) = some S' ∧ MR S S' m [9] [] ∧ ∀ c, c < 61 → cI (S'.2 (m + 9)) c = nI (par T c).length :=
  iter_fu (F := F_X10_orders_28 m) (s := ((0 : Int32), S)) (fun i s => s.1 = nI i ∧ MR S s.2 m [9] [] ∧ CJ T i [] (cI (s.2.2 (m + 9)))) 61 (by decide) ⟨rfl, MR_refl h.1 _ _, CJ_0 T hw⟩
    (by
      rintro ⟨b, S1⟩ ⟨h1, h2, h3⟩
      dsimp only at h1 h2 h3
      subst h1
      unfold F_X10_orders_28
      rw [if_pos le61]
      refine ⟨_, rfl, h2, fun c hc => ?_⟩
      rw [h3 c hc]
      simp [par])
    (by
      rintro i ⟨b, S1⟩ hi ⟨h1, h2, h3⟩
      dsimp only at h1 h2 h3
      subst h1
      obtain ⟨S2, e, h4, h5⟩ := r_ord36 (MR_RR h2 (by decide) h) hT hi h3
      unfold F_X10_orders_28
      rw [if_neg (ge61 hi)]
      dsimp only
      rw [e, Option.bind_some]
      exact ⟨_, rfl, nI_1 _, MR_trans h2 h4, h5⟩)
theorem r_ord91 (h : RR S m T) (hT : tOk T) (hn : fI (S.2 m) 20 = 0) (hw : ∀ c, c < 61 → cI (S.2 (m + 9)) c = nI (par T c).length) : ∃ S', iter (F_X10_orders_91 m) fu ((0 : Int32), S) = some S' ∧ MR S S' m [8] [20] ∧ fI (S'.2 m) 20 = nI (ko0 T).length ∧ ∀ j c, (ko0 T)[j]? = some c → cI (S'.2 (m + 8)) j = nI c :=
  iter_fu (F := F_X10_orders_91 m) (s := ((0 : Int32), S)) (fun i s => s.1 = nI i ∧ MR S s.2 m [8] [20] ∧ fI (s.2.2 m) 20 = nI ((List.range i).filter fun i => tPres T i && decide ((par T i).length = 0)).length ∧ ∀ j c, ((List.range i).filter fun i => tPres T i && decide ((par T i).length = 0))[j]? = some c → cI (s.2.2 (m + 8)) j = nI c) 61 (by decide) ⟨rfl, MR_refl h.1 _ _, hn, fun j c hc => by simp at hc⟩
    (by
      rintro ⟨b, S1⟩ ⟨h1, h2, h3, h4⟩
      dsimp only at h1 h2 h3 h4
      subst h1
      unfold F_X10_orders_91
      rw [if_pos le61]
      exact ⟨_, rfl, h2, h3, h4⟩)
    (by
      rintro i ⟨b, S1⟩ hi ⟨h1, h2, h3, h4⟩
      dsimp only at h1 h2 h3 h4
      subst h1
      have hR := MR_RR h2 (by decide) h
      have hpl := List.length_filter_le (fun q => tPres T q && (tKids T q).contains i) (List.range 61)
      rw [List.length_range] at hpl
      have hle := List.length_filter_le (fun i => tPres T i && decide ((par T i).length = 0)) (List.range i)
      rw [List.length_range] at hle
      have hw1 : cI (S1.2 (m + 9)) i = nI (par T i).length := by rw [h2.2.2.2.1 9 (by decide) (by decide)]; exact hw i hi
      unfold F_X10_orders_91
      rw [if_neg (ge61 hi), s10_g1 h2.1, Option.bind_some, nI_1l, s10_r1 h2.1 (by omega), Option.bind_some, hR.2.2.1 i hi, nI_1, ko0_range]
      cases hp : tPres T i
      · rw [ite2 rfl]
        refine ⟨_, rfl, rfl, h2, by simpa using h3, by simpa using h4⟩
      · rw [ite3 rfl, s10_g15 h2.1, Option.bind_some, s10_r15 h2.1 hi, Option.bind_some, hw1]
        by_cases c : (par T i).length = 0
        · rw [if_neg (fun z => z (by rw [c]; rfl)), s10_g14 h2.1, Option.bind_some, s10_g20 h2.1, Option.bind_some, h3]
          dsimp only
          rw [s10_w14 h2.1 (by omega), Option.bind_some]
          have hs2 := sh_wI h2.1 (m + 8) ((List.range i).filter fun i => tPres T i && decide ((par T i).length = 0)).length (nI i)
          rw [s10_g20 hs2, Option.bind_some, wI_ne _ _ _ (show m ≠ m + 8 by omega), h3, nI_1, s10_p20 hs2, Option.bind_some]
          have hs3 := s10_k20 hs2 hs2 (nI (((List.range i).filter fun i => tPres T i && decide ((par T i).length = 0)).length + 1))
          refine ⟨_, rfl, rfl, MR_F (MR_I h2 (by decide) (by decide) (by decide) _ _) (by decide) hs3, ?_, fun j x hx => ?_⟩
          · show fI ((wF _ m 20 _).2 m) 20 = _
            rw [s10_v20 hs2]; simp [c]
          · show cI ((wF _ m 20 _).2 (m + 8)) j = _
            rw [wF_ne _ _ _ (by omega), s10_v14 h2.1]
            simp only [c, and_self, if_true] at hx
            by_cases e : j = ((List.range i).filter fun i => tPres T i && decide ((par T i).length = 0)).length
            · subst e
              rw [List.getElem?_append_right (Nat.le_refl _), Nat.sub_self] at hx
              have : i = x := by simpa using hx
              rw [pu_at, this]
            · rw [pu_ne _ _ _ e]
              apply h4
              rw [List.getElem?_append] at hx
              by_cases l : j < ((List.range i).filter fun i => tPres T i && decide ((par T i).length = 0)).length
              · rw [if_pos l] at hx; exact hx
              · rw [if_neg l] at hx
                have := (List.getElem?_eq_some_iff.mp hx).1
                rw [List.length_singleton] at this
                omega
        · rw [if_pos (nI_n0 c (by unfold par; omega))]
          refine ⟨_, rfl, rfl, h2, ?_, ?_⟩
          · simpa [c] using h3
          · simpa [c] using h4)
theorem r_ord163 (h : RR S m T) (hT : tOk T) {k p : Nat} {o : List Nat} (hI : OI T k o (cI (S.2 (m + 8))) (cI (S.2 (m + 9))) (fI (S.2 m) 20)) (hp : o[k]? = some p) (l1 : Int32) : ∃ S', iter (F_X10_orders_163 m l1 (nI p)) fu ((0 : Int32), S) = some S' ∧ MR S S' m [8, 9] [20] ∧ OI T (k + 1) (o ++ (tKids T p).filter (kz T k o)) (cI (S'.2 (m + 8))) (cI (S'.2 (m + 9))) (fI (S'.2 m) 20) := by
  have hpp := OI_pres hI hp
  have hp61 := tOk_lt hT hpp
  have h12 := (hT.2.2.2.1 p hpp).1
  exact iter_fu (F := F_X10_orders_163 m l1 (nI p)) (s := ((0 : Int32), S)) (fun i s => s.1 = nI i ∧ MR S s.2 m [8, 9] [20] ∧ OJ T k o ((tKids T p).take i) (cI (s.2.2 (m + 8))) (cI (s.2.2 (m + 9))) (fI (s.2.2 m) 20)) (tKids T p).length (by omega) ⟨rfl, MR_refl h.1 _ _, by rw [List.take_zero]; exact OJ_0 hI⟩
    (by
      rintro ⟨b, S1⟩ ⟨h1, h2, h3⟩
      dsimp only at h1 h2 h3
      subst h1
      have hR := MR_RR h2 (by decide) h
      unfold F_X10_orders_163
      rw [s10_g1 h2.1, Option.bind_some, li_916, nI_add, s10_r1 h2.1 (by omega), Option.bind_some, r_many hR hpp, if_pos (Int32.le_refl _)]
      rw [List.take_length] at h3
      exact ⟨_, rfl, h2, OJ_end hT hI hp h3⟩)
    (by
      rintro i ⟨b, S1⟩ hi ⟨h1, h2, h3⟩
      dsimp only at h1 h2 h3
      subst h1
      have hR := MR_RR h2 (by decide) h
      have hc : (tKids T p)[i]? = some (tKids T p)[i] := List.getElem?_eq_getElem hi
      have hc61 := (tOk_kid hT hpp (List.getElem_mem hi)).2.2.2
      obtain ⟨q1, q2, q3, q4⟩ := OJ_step hT hI hp hc h3
      generalize (tKids T p)[i] = c at *
      unfold F_X10_orders_163
      rw [s10_g1 h2.1, Option.bind_some, li_916, nI_add, s10_r1 h2.1 (by omega), Option.bind_some, r_many hR hpp, if_neg (nI_ge hi (by omega)), r_child hR hp61 (by omega) hpp hc, Option.bind_some, s10_g15 h2.1, Option.bind_some, s10_r15 h2.1 hc61, Option.bind_some, s10_w15 h2.1 hc61, Option.bind_some]
      have hs2 := sh_wI h2.1 (m + 9) c (cI (S1.2 (m + 9)) c - 1)
      have h22 : MR S (wI S1 (m + 9) c (cI (S1.2 (m + 9)) c - 1)) m [8, 9] [20] := MR_I h2 (by decide) (by decide) (by decide) _ _
      have v9 := s10_v15 h2.1 c (cI (S1.2 (m + 9)) c - 1)
      have v8 : (wI S1 (m + 9) c (cI (S1.2 (m + 9)) c - 1)).2 (m + 8) = S1.2 (m + 8) := wI_ne _ _ _ (by omega)
      have v0 : (wI S1 (m + 9) c (cI (S1.2 (m + 9)) c - 1)).2 m = S1.2 m := wI_ne _ _ _ (by omega)
      rw [s10_g15 hs2, Option.bind_some, s10_r15 hs2 hc61, Option.bind_some, v9, pu_at, q1]
      by_cases z : kz T k o c = true
      · obtain ⟨N, n1, n2, n3⟩ := q4 z
        have z0 : wt T (o.take (k + 1)) c = 0 := by unfold kz at z; exact of_decide_eq_true z
        rw [if_neg (fun w => w (by rw [z0]; rfl)), ← q1, s10_g14 hs2, Option.bind_some, s10_g20 hs2, Option.bind_some, v0, n2, s10_w14 hs2 n1, Option.bind_some]
        have hs3 := sh_wI hs2 (m + 8) N (nI c)
        rw [s10_g20 hs3, Option.bind_some, wI_ne _ _ _ (show m ≠ m + 8 by omega), v0, n2, s10_p20 hs3, Option.bind_some]
        have hs4 := s10_k20 hs3 hs3 (nI N + 1)
        refine ⟨_, rfl, nI_1 _, MR_F (MR_I h22 (by decide) (by decide) (by decide) _ _) (by decide) hs4, ?_⟩
        show OJ T k o _ (cI ((wF _ m 20 _).2 (m + 8))) (cI ((wF _ m 20 _).2 (m + 9))) (fI ((wF _ m 20 _).2 m) 20)
        rw [s10_v20 hs3, wF_ne _ _ _ (show m + 8 ≠ m by omega), wF_ne _ _ _ (show m + 9 ≠ m by omega), s10_v14 hs2, wI_ne _ _ _ (show m + 9 ≠ m + 8 by omega), v9, v8]
        rw [n2] at n3
        exact n3
      · have z1 : kz T k o c = false := by cases e : kz T k o c <;> first | rfl | exact absurd e z
        have z0 : ¬ wt T (o.take (k + 1)) c = 0 := by unfold kz at z1; exact of_decide_eq_false z1
        rw [if_pos (nI_n0 z0 (by omega)), ← q1]
        refine ⟨_, rfl, nI_1 _, h22, ?_⟩
        show OJ T k o _ (cI ((wI S1 (m + 9) _ _).2 (m + 8))) (cI ((wI S1 (m + 9) _ _).2 (m + 9))) (fI ((wI S1 (m + 9) _ _).2 m) 20)
        rw [v9, v8, v0]
        exact q3 z1)
theorem r_orders (h : RR S m T) (hT : tOk T) : ∃ S', F_X10_orders S m = some S' ∧ MR S S' m [8, 9] [20] ∧ fI (S'.2 m) 20 = nI (ordT T).length ∧ ∀ j c, (ordT T)[j]? = some c → cI (S'.2 (m + 8)) j = nI c := by
  unfold F_X10_orders
  rw [s10_oF h.1, s10_p20 h.1, Option.bind_some]
  have hs1 := s10_k20 h.1 h.1 0
  have m1 : MR S (wF S m 20 (.int 0)) m [8, 9] [20] := MR_F (MR_refl h.1 _ _) (by decide) hs1
  have n1 := s10_v20 h.1 0
  generalize wF S m 20 (.int 0) = S1 at *
  obtain ⟨S2, e2, m2, w2⟩ := r_ord7 hs1
  rw [e2, Option.bind_some]
  obtain ⟨S3, e3, m3, w3⟩ := r_ord28 (MR_RR m2 (by decide) (MR_RR m1 (by decide) h)) hT w2
  rw [e3, Option.bind_some]
  have n3 : fI (S3.2 m) 20 = 0 := by rw [m3.2.2.2.2 20 (by decide), m2.2.2.2.2 20 (by decide)]; exact n1
  have h3 := MR_RR m3 (by decide) (MR_RR m2 (by decide) (MR_RR m1 (by decide) h))
  obtain ⟨S4, e4, m4, n4, o4⟩ := r_ord91 h3 hT n3 w3
  rw [e4, Option.bind_some]
  have h4 := MR_RR m4 (by decide) h3
  have hI : OI T 0 (ko0 T) (cI (S4.2 (m + 8))) (cI (S4.2 (m + 9))) (fI (S4.2 m) 20) := OI_0 hT n4 o4 (fun c hc => by rw [m4.2.2.2.1 9 (by decide) (by decide)]; exact w3 c hc)
  have m14 : MR S S4 m [8, 9] [20] := MR_trans m1 (MR_trans (MR_sub m2 (by decide) (by decide)) (MR_trans (MR_sub m3 (by decide) (by decide)) (MR_sub m4 (by decide) (by decide))))
  obtain ⟨S5, e5, m5, h5⟩ := iter_fu (F := F_X10_orders_146 m) (s := ((0 : Int32), S4)) (fun k s => s.1 = nI k ∧ MR S4 s.2 m [8, 9] [20] ∧ ∃ o, OI T k o (cI (s.2.2 (m + 8))) (cI (s.2.2 (m + 9))) (fI (s.2.2 m) 20)) (P := fun S5 => MR S4 S5 m [8, 9] [20] ∧ OI T (ordT T).length (ordT T) (cI (S5.2 (m + 8))) (cI (S5.2 (m + 9))) (fI (S5.2 m) 20)) 61 (by decide) ⟨rfl, MR_refl h4.1 _ _, _, hI⟩
    (by
      rintro ⟨b, S1⟩ ⟨h1, h2, o, h3⟩
      dsimp only at h1 h2 h3
      subst h1
      have hl := kInv_le hT h3.1
      have hk := h3.1.1
      have e := OI_end h3 (by omega)
      subst e
      unfold F_X10_orders_146
      rw [s10_g20 h2.1, Option.bind_some, h3.2.2.1, if_pos (nI_le hl (by decide))]
      have : (61 : Nat) = (ordT T).length := by omega
      rw [this] at h3
      exact ⟨_, rfl, h2, h3⟩)
    (by
      rintro k ⟨b, S1⟩ hk ⟨h1, h2, o, h3⟩
      dsimp only at h1 h2 h3
      subst h1
      have hl := kInv_le hT h3.1
      have hko := h3.1.1
      unfold F_X10_orders_146
      rw [s10_g20 h2.1, Option.bind_some, h3.2.2.1]
      by_cases c : o.length ≤ k
      · have e := OI_end h3 c
        subst e
        rw [if_pos (nI_le c (by omega))]
        have : k = (ordT T).length := by omega
        rw [this] at h3
        exact ⟨_, rfl, h2, h3⟩
      · have hko2 : k < o.length := by omega
        have hp : o[k]? = some o[k] := List.getElem?_eq_getElem hko2
        rw [if_neg (nI_ge hko2 (by omega)), s10_g14 h2.1, Option.bind_some, s10_r14 h2.1 hk, Option.bind_some, h3.2.2.2.1 k _ hp]
        obtain ⟨S6, e6, m6, h6⟩ := r_ord163 (MR_RR h2 (by decide) h4) hT h3 hp (nI k)
        dsimp only
        rw [e6, Option.bind_some]
        exact ⟨_, rfl, nI_1 _, MR_trans h2 m6, _, h6⟩)
  rw [e5, Option.bind_some]
  exact ⟨_, rfl, MR_trans m14 m5, h5.2.2.1, h5.2.2.2.1⟩
end RKN
