/-! the class's survey of a tree -/
section CME
variable {S : pS} {a b : Nat} {T : Tr}
theorem c_cp2 (h : Sh S b sp6) (l1 : Nat) : ∃ S', iter (F_X6_countParents_2 b l1) fu ((0 : Int32), S) = some S' ∧ MS S S' b [1, 2] [] ∧ ∀ c, c < 61 → cI (S'.2 (b + 1)) c = 0 ∧ cI (S'.2 (b + 2)) c = 0 :=
  iter_fu (F := F_X6_countParents_2 b l1) (s := ((0 : Int32), S)) (fun i s => s.1 = nI i ∧ MS S s.2 b [1, 2] [] ∧ ∀ c, c < i → cI (s.2.2 (b + 1)) c = 0 ∧ cI (s.2.2 (b + 2)) c = 0) 61 (by decide) ⟨rfl, MS_refl h _ _, fun c hc => absurd hc (Nat.not_lt_zero _)⟩
    (by
      rintro ⟨x, S1⟩ ⟨h1, h2, h3⟩
      dsimp only at h1 h2 h3
      subst h1
      unfold F_X6_countParents_2
      rw [if_pos le61]
      exact ⟨_, rfl, h2, h3⟩)
    (by
      rintro i ⟨x, S1⟩ hi ⟨h1, h2, h3⟩
      dsimp only at h1 h2 h3
      subst h1
      unfold F_X6_countParents_2
      have s2 := sh_wI h2.1 (b + 1) i 0
      rw [if_neg (ge61 hi), s6_g0 h2.1, Option.bind_some, s6_w0 h2.1 hi, Option.bind_some, s6_g1 s2, Option.bind_some, s6_w1 s2 hi, Option.bind_some, nI_1]
      refine ⟨_, rfl, rfl, MS_I (MS_I h2 (by decide) (by decide) (by decide) _ _) (by decide) (by decide) (by decide) _ _, fun c hc => ?_⟩
      dsimp only
      rw [s6_v1 s2, wI_ne _ _ _ (show b + 1 ≠ b + 2 by omega), wI_ne _ _ _ (show b + 2 ≠ b + 1 by omega), s6_v0 h2.1]
      by_cases e : c = i
      · rw [e, pu_at, pu_at]; exact ⟨rfl, rfl⟩
      · rw [pu_ne _ _ _ e, pu_ne _ _ _ e]; exact h3 c (by omega))
theorem c_cp38 (hs : Sh S b sp6) (h : TR S a T) (hab : a + 7 ≤ b ∨ b + 8 ≤ a) (hT : tOk T) {p : Nat} (hp61 : p < 61) (hw : CJ T p [] (cI (S.2 (b + 1)))) (hu : CJ T p [] (cI (S.2 (b + 2)))) : ∃ S', iter (F_X6_countParents_38 b a (nI p)) fu ((0 : Int32), S) = some S' ∧ MS S S' b [1, 2] [] ∧ CJ T (p + 1) [] (cI (S'.2 (b + 1))) ∧ CJ T (p + 1) [] (cI (S'.2 (b + 2))) := by
  cases hp : tPres T p
  · refine ⟨S, ?_, MS_refl hs _ _, CJ_no hw hp, CJ_no hu hp⟩
    have e : F_X6_countParents_38 b a (nI p) ((0 : Int32), S) = some (.inr S) := by
      unfold F_X6_countParents_38
      rw [c_holds_n h hp61, hp, Option.bind_some, ite0 rfl]
    show (F_X6_countParents_38 b a (nI p) ((0 : Int32), S)).bind _ = _
    rw [e]; rfl
  · have h12 := (hT.2.2.2.1 p hp).1
    exact iter_fu (F := F_X6_countParents_38 b a (nI p)) (s := ((0 : Int32), S)) (fun i s => s.1 = nI i ∧ MS S s.2 b [1, 2] [] ∧ CJ T p ((tKids T p).take i) (cI (s.2.2 (b + 1))) ∧ CJ T p ((tKids T p).take i) (cI (s.2.2 (b + 2)))) (tKids T p).length (by omega) ⟨rfl, MS_refl hs _ _, by rw [List.take_zero]; exact hw, by rw [List.take_zero]; exact hu⟩
      (by
        rintro ⟨x, S1⟩ ⟨h1, h2, h3, h4⟩
        dsimp only at h1 h2 h3 h4
        subst h1
        have hR := MS_TR h2 hab h
        unfold F_X6_countParents_38
        rw [c_holds_n hR hp61, hp, Option.bind_some, ite1 rfl, c_count hR hp61 hp, Option.bind_some, if_pos (Int32.le_refl _)]
        rw [List.take_length] at h3 h4
        exact ⟨_, rfl, h2, CJ_yes h3 hp, CJ_yes h4 hp⟩)
      (by
        rintro i ⟨x, S1⟩ hi ⟨h1, h2, h3, h4⟩
        dsimp only at h1 h2 h3 h4
        subst h1
        have hR := MS_TR h2 hab h
        have hc : (tKids T p)[i]? = some (tKids T p)[i] := List.getElem?_eq_getElem hi
        have hc61 := (tOk_kid hT hp (List.getElem_mem hi)).2.2.2
        generalize (tKids T p)[i] = c at *
        unfold F_X6_countParents_38
        have s2 := sh_wI h2.1 (b + 1) c (cI (S1.2 (b + 1)) c + 1)
        rw [c_holds_n hR hp61, hp, Option.bind_some, ite1 rfl, c_count hR hp61 hp, Option.bind_some, if_neg (nI_ge hi (by omega)), c_childAt hR hp61 (by omega) hp hc, Option.bind_some, s6_g0 h2.1, Option.bind_some, s6_r0 h2.1 hc61, Option.bind_some, s6_w0 h2.1 hc61, Option.bind_some, s6_g1 s2, Option.bind_some, s6_r1 s2 hc61, Option.bind_some, s6_w1 s2 hc61, Option.bind_some]
        refine ⟨_, rfl, nI_1 _, MS_I (MS_I h2 (by decide) (by decide) (by decide) _ _) (by decide) (by decide) (by decide) _ _, ?_, ?_⟩
        · dsimp only
          rw [wI_ne _ _ _ (show b + 1 ≠ b + 2 by omega), s6_v0 h2.1]
          exact CJ_step hT hp hc h3
        · dsimp only
          rw [s6_v1 s2, wI_ne _ _ _ (show b + 2 ≠ b + 1 by omega)]
          exact CJ_step hT hp hc h4)
theorem c_countPar (hs : Sh S b sp6) (h : TR S a T) (hab : a + 7 ≤ b ∨ b + 8 ≤ a) (hT : tOk T) : ∃ S', F_X6_countParents S b a = some S' ∧ MS S S' b [1, 2] [] ∧ ∀ c, c < 61 → cI (S'.2 (b + 1)) c = nI (par T c).length ∧ cI (S'.2 (b + 2)) c = nI (par T c).length := by
  unfold F_X6_countParents
  obtain ⟨S1, e1, m1, z1⟩ := c_cp2 hs a
  rw [s6_oF hs, e1, Option.bind_some]
  obtain ⟨S2, e2, m2, w2⟩ := iter_fu (F := F_X6_countParents_30 b a) (s := ((0 : Int32), S1)) (fun i s => s.1 = nI i ∧ MS S1 s.2 b [1, 2] [] ∧ CJ T i [] (cI (s.2.2 (b + 1))) ∧ CJ T i [] (cI (s.2.2 (b + 2)))) (P := fun S' => MS S1 S' b [1, 2] [] ∧ ∀ c, c < 61 → cI (S'.2 (b + 1)) c = nI (par T c).length ∧ cI (S'.2 (b + 2)) c = nI (par T c).length) 61 (by decide) ⟨rfl, MS_refl m1.1 _ _, CJ_0 T (fun c hc => (z1 c hc).1), CJ_0 T (fun c hc => (z1 c hc).2)⟩
    (by
      rintro ⟨x, S3⟩ ⟨h1, h2, h3, h4⟩
      dsimp only at h1 h2 h3 h4
      subst h1
      unfold F_X6_countParents_30
      rw [if_pos le61]
      refine ⟨_, rfl, h2, fun c hc => ?_⟩
      rw [h3 c hc, h4 c hc]
      simp [par])
    (by
      rintro i ⟨x, S3⟩ hi ⟨h1, h2, h3, h4⟩
      dsimp only at h1 h2 h3 h4
      subst h1
      obtain ⟨S4, e, m4, j1, j2⟩ := c_cp38 h2.1 (MS_TR h2 hab (MS_TR m1 hab h)) hab hT hi h3 h4
      unfold F_X6_countParents_30
      rw [if_neg (ge61 hi)]
      dsimp only
      rw [e, Option.bind_some]
      exact ⟨_, rfl, nI_1 _, MS_trans h2 m4, j1, j2⟩)
  rw [e2, Option.bind_some]
  exact ⟨_, rfl, MS_trans m1 m2, w2⟩
theorem c_put (hs : Sh S b sp6) {N : Nat} (hN : N < 61) (hn : fI (S.2 b) 3 = nI N) (x : Int32) : ∃ S', F_X6_putInOrder S b x = some S' ∧ MS S S' b [3] [3] ∧ fI (S'.2 b) 3 = nI N + 1 ∧ cI (S'.2 (b + 3)) = pu (cI (S.2 (b + 3))) N x := by
  unfold F_X6_putInOrder
  have s2 := sh_wI hs (b + 3) N x
  rw [s6_oF hs, s6_g3 hs, Option.bind_some, hn, if_neg (ge61 hN), s6_g2 hs, Option.bind_some, Option.bind_some, s6_w2 hs hN, Option.bind_some, s6_g3 s2, Option.bind_some, wI_ne _ _ _ (show b ≠ b + 3 by omega), hn, s6_p3 s2, Option.bind_some]
  have s3 := s6_k3 s2 s2 (nI N + 1)
  refine ⟨_, rfl, MS_F (MS_I (MS_refl hs _ _) (by decide) (by decide) (by decide) _ _) (by decide) s3, s6_v3 s2 _, ?_⟩
  rw [wF_ne _ _ _ (show b + 3 ≠ b by omega), s6_v2 hs]
theorem c_oi7 (hs : Sh S b sp6) (h : TR S a T) (hab : a + 7 ≤ b ∨ b + 8 ≤ a) (hn : fI (S.2 b) 3 = 0) (hw : ∀ c, c < 61 → cI (S.2 (b + 1)) c = nI (par T c).length) : ∃ S', iter (F_X6_orderItems_7 b a) fu ((0 : Int32), S) = some S' ∧ MS S S' b [3] [3] ∧ fI (S'.2 b) 3 = nI (ko0 T).length ∧ ∀ j c, (ko0 T)[j]? = some c → cI (S'.2 (b + 3)) j = nI c :=
  iter_fu (F := F_X6_orderItems_7 b a) (s := ((0 : Int32), S)) (fun i s => s.1 = nI i ∧ MS S s.2 b [3] [3] ∧ fI (s.2.2 b) 3 = nI ((List.range i).filter fun i => tPres T i && decide ((par T i).length = 0)).length ∧ ∀ j c, ((List.range i).filter fun i => tPres T i && decide ((par T i).length = 0))[j]? = some c → cI (s.2.2 (b + 3)) j = nI c) 61 (by decide) ⟨rfl, MS_refl hs _ _, hn, fun j c hc => by simp at hc⟩
    (by
      rintro ⟨x, S1⟩ ⟨h1, h2, h3, h4⟩
      dsimp only at h1 h2 h3 h4
      subst h1
      unfold F_X6_orderItems_7
      rw [if_pos le61]
      exact ⟨_, rfl, h2, h3, h4⟩)
    (by
      rintro i ⟨x, S1⟩ hi ⟨h1, h2, h3, h4⟩
      dsimp only at h1 h2 h3 h4
      subst h1
      have hR := MS_TR h2 hab h
      have hpl := List.length_filter_le (fun q => tPres T q && (tKids T q).contains i) (List.range 61)
      rw [List.length_range] at hpl
      have hle := List.length_filter_le (fun i => tPres T i && decide ((par T i).length = 0)) (List.range i)
      rw [List.length_range] at hle
      have hw1 : cI (S1.2 (b + 1)) i = nI (par T i).length := by rw [h2.2.2.2.1 1 (by decide) (by decide)]; exact hw i hi
      unfold F_X6_orderItems_7
      rw [if_neg (ge61 hi), c_holds_n hR hi, Option.bind_some, nI_1, ko0_range]
      cases hp : tPres T i
      · rw [ite0 rfl]
        refine ⟨_, rfl, rfl, h2, by simpa using h3, by simpa using h4⟩
      · rw [ite1 rfl, s6_g0 h2.1, Option.bind_some, s6_r0 h2.1 hi, Option.bind_some, hw1]
        by_cases c : (par T i).length = 0
        · rw [if_neg (fun z => z (by rw [c]; rfl))]
          obtain ⟨S2, e, m2, f2, o2⟩ := c_put h2.1 (by omega) h3 (nI i)
          dsimp only
          rw [e, Option.bind_some]
          refine ⟨_, rfl, rfl, MS_trans h2 m2, ?_, fun j x hx => ?_⟩
          · dsimp only
            rw [f2, nI_1]; simp [c]
          · dsimp only
            rw [o2]
            simp only [c, and_self, if_true] at hx
            by_cases e : j = ((List.range i).filter fun i => tPres T i && decide ((par T i).length = 0)).length
            · subst e
              rw [List.getElem?_append_right (Nat.le_refl _), Nat.sub_self] at hx
              have : i = x := by simpa using hx
              rw [pu_at, this]
            · rw [pu_ne _ _ _ e]
              apply h4
              rw [List.getElem?_append] at hx
              by_cases l : j < ((List.range i).filter fun i => tPres T i && decide ((par T i).length = 0)).length
              · rw [if_pos l] at hx; exact hx
              · rw [if_neg l] at hx
                have := (List.getElem?_eq_some_iff.mp hx).1
                rw [List.length_singleton] at this
                omega
        · rw [if_pos (nI_n0 c (by unfold par; omega))]
          refine ⟨_, rfl, rfl, h2, ?_, ?_⟩
          · simpa [c] using h3
          · simpa [c] using h4)
theorem c_oi67 (hs : Sh S b sp6) (h : TR S a T) (hab : a + 7 ≤ b ∨ b + 8 ≤ a) (hT : tOk T) {k p : Nat} {o : List Nat} (hI : OI T k o (cI (S.2 (b + 3))) (cI (S.2 (b + 2))) (fI (S.2 b) 3)) (hp : o[k]? = some p) (l2 : Int32) : ∃ S', iter (F_X6_orderItems_67 b a l2 (nI p)) fu ((0 : Int32), S) = some S' ∧ MS S S' b [2, 3] [3] ∧ OI T (k + 1) (o ++ (tKids T p).filter (kz T k o)) (cI (S'.2 (b + 3))) (cI (S'.2 (b + 2))) (fI (S'.2 b) 3) := by
  have hpp := OI_pres hI hp
  have hp61 := tOk_lt hT hpp
  have h12 := (hT.2.2.2.1 p hpp).1
  exact iter_fu (F := F_X6_orderItems_67 b a l2 (nI p)) (s := ((0 : Int32), S)) (fun i s => s.1 = nI i ∧ MS S s.2 b [2, 3] [3] ∧ OJ T k o ((tKids T p).take i) (cI (s.2.2 (b + 3))) (cI (s.2.2 (b + 2))) (fI (s.2.2 b) 3)) (tKids T p).length (by omega) ⟨rfl, MS_refl hs _ _, by rw [List.take_zero]; exact OJ_0 hI⟩
    (by
      rintro ⟨x, S1⟩ ⟨h1, h2, h3⟩
      dsimp only at h1 h2 h3
      subst h1
      have hR := MS_TR h2 hab h
      unfold F_X6_orderItems_67
      rw [c_count hR hp61 hpp, Option.bind_some, if_pos (Int32.le_refl _)]
      rw [List.take_length] at h3
      exact ⟨_, rfl, h2, OJ_end hT hI hp h3⟩)
    (by
      rintro i ⟨x, S1⟩ hi ⟨h1, h2, h3⟩
      dsimp only at h1 h2 h3
      subst h1
      have hR := MS_TR h2 hab h
      have hc : (tKids T p)[i]? = some (tKids T p)[i] := List.getElem?_eq_getElem hi
      have hc61 := (tOk_kid hT hpp (List.getElem_mem hi)).2.2.2
      obtain ⟨q1, q2, q3, q4⟩ := OJ_step hT hI hp hc h3
      generalize (tKids T p)[i] = c at *
      unfold F_X6_orderItems_67
      rw [c_count hR hp61 hpp, Option.bind_some, if_neg (nI_ge hi (by omega)), c_childAt hR hp61 (by omega) hpp hc, Option.bind_some, s6_g1 h2.1, Option.bind_some, s6_r1 h2.1 hc61, Option.bind_some, s6_w1 h2.1 hc61, Option.bind_some]
      have hs2 := sh_wI h2.1 (b + 2) c (cI (S1.2 (b + 2)) c - 1)
      have h22 : MS S (wI S1 (b + 2) c (cI (S1.2 (b + 2)) c - 1)) b [2, 3] [3] := MS_I h2 (by decide) (by decide) (by decide) _ _
      have v9 := s6_v1 h2.1 c (cI (S1.2 (b + 2)) c - 1)
      have v8 : (wI S1 (b + 2) c (cI (S1.2 (b + 2)) c - 1)).2 (b + 3) = S1.2 (b + 3) := wI_ne _ _ _ (by omega)
      have v0 : (wI S1 (b + 2) c (cI (S1.2 (b + 2)) c - 1)).2 b = S1.2 b := wI_ne _ _ _ (by omega)
      rw [s6_g1 hs2, Option.bind_some, s6_r1 hs2 hc61, Option.bind_some, v9, pu_at, q1]
      by_cases z : kz T k o c = true
      · obtain ⟨N, n1, n2, n3⟩ := q4 z
        have z0 : wt T (o.take (k + 1)) c = 0 := by unfold kz at z; exact of_decide_eq_true z
        obtain ⟨S3, e3, m3, f3, o3⟩ := c_put hs2 n1 (by rw [v0]; exact n2) (nI c)
        rw [if_neg (fun w => w (by rw [z0]; rfl)), ← q1, e3, Option.bind_some]
        refine ⟨_, rfl, nI_1 _, MS_trans h22 (MS_sub m3 (by decide) (by decide)), ?_⟩
        dsimp only
        rw [f3, o3, v8, m3.2.2.2.1 2 (by decide) (by decide), v9]
        rw [n2] at n3
        exact n3
      · have z1 : kz T k o c = false := by cases e : kz T k o c <;> first | rfl | exact absurd e z
        have z0 : ¬ wt T (o.take (k + 1)) c = 0 := by unfold kz at z1; exact of_decide_eq_false z1
        rw [if_pos (nI_n0 z0 (by omega)), ← q1]
        refine ⟨_, rfl, nI_1 _, h22, ?_⟩
        dsimp only
        rw [v9, v8, v0]
        exact q3 z1)
theorem c_order (hs : Sh S b sp6) (h : TR S a T) (hab : a + 7 ≤ b ∨ b + 8 ≤ a) (hT : tOk T) (hw : ∀ c, c < 61 → cI (S.2 (b + 1)) c = nI (par T c).length ∧ cI (S.2 (b + 2)) c = nI (par T c).length) : ∃ S', F_X6_orderItems S b a = some S' ∧ MS S S' b [2, 3] [3] ∧ fI (S'.2 b) 3 = nI (ordT T).length ∧ ∀ j c, (ordT T)[j]? = some c → cI (S'.2 (b + 3)) j = nI c := by
  unfold F_X6_orderItems
  rw [s6_oF hs, s6_p3 hs, Option.bind_some]
  have hs1 := s6_k3 hs hs 0
  have m1 : MS S (wF S b 3 (.int 0)) b [2, 3] [3] := MS_F (MS_refl hs _ _) (by decide) hs1
  have n1 := s6_v3 hs 0
  have w1 : ∀ c, c < 61 → cI ((wF S b 3 (.int 0)).2 (b + 1)) c = nI (par T c).length ∧ cI ((wF S b 3 (.int 0)).2 (b + 2)) c = nI (par T c).length := by
    intro c hc
    rw [wF_ne _ _ _ (show b + 1 ≠ b by omega), wF_ne _ _ _ (show b + 2 ≠ b by omega)]
    exact hw c hc
  generalize wF S b 3 (.int 0) = S1 at *
  obtain ⟨S4, e4, m4, n4, o4⟩ := c_oi7 hs1 (MS_TR m1 hab h) hab n1 (fun c hc => (w1 c hc).1)
  rw [e4, Option.bind_some]
  have h4 := MS_TR m4 hab (MS_TR m1 hab h)
  have hI : OI T 0 (ko0 T) (cI (S4.2 (b + 3))) (cI (S4.2 (b + 2))) (fI (S4.2 b) 3) := OI_0 hT n4 o4 (fun c hc => by rw [m4.2.2.2.1 2 (by decide) (by decide)]; exact (w1 c hc).2)
  have m14 : MS S S4 b [2, 3] [3] := MS_trans m1 (MS_sub m4 (by decide) (by decide))
  obtain ⟨S5, e5, m5, h5⟩ := iter_fu (F := F_X6_orderItems_43 b a) (s := ((0 : Int32), S4)) (fun k s => s.1 = nI k ∧ MS S4 s.2 b [2, 3] [3] ∧ ∃ o, OI T k o (cI (s.2.2 (b + 3))) (cI (s.2.2 (b + 2))) (fI (s.2.2 b) 3)) (P := fun S5 => MS S4 S5 b [2, 3] [3] ∧ OI T (ordT T).length (ordT T) (cI (S5.2 (b + 3))) (cI (S5.2 (b + 2))) (fI (S5.2 b) 3)) 61 (by decide) ⟨rfl, MS_refl m4.1 _ _, _, hI⟩
    (by
      rintro ⟨x, S1⟩ ⟨h1, h2, o, h3⟩
      dsimp only at h1 h2 h3
      subst h1
      have hl := kInv_le hT h3.1
      have hk := h3.1.1
      have e := OI_end h3 (by omega)
      subst e
      unfold F_X6_orderItems_43
      rw [s6_g3 h2.1, Option.bind_some, h3.2.2.1, if_pos (nI_le hl (by decide))]
      have : (61 : Nat) = (ordT T).length := by omega
      rw [this] at h3
      exact ⟨_, rfl, h2, h3⟩)
    (by
      rintro k ⟨x, S1⟩ hk ⟨h1, h2, o, h3⟩
      dsimp only at h1 h2 h3
      subst h1
      have hl := kInv_le hT h3.1
      have hko := h3.1.1
      unfold F_X6_orderItems_43
      rw [s6_g3 h2.1, Option.bind_some, h3.2.2.1]
      by_cases c : o.length ≤ k
      · have e := OI_end h3 c
        subst e
        rw [if_pos (nI_le c (by omega))]
        have : k = (ordT T).length := by omega
        rw [this] at h3
        exact ⟨_, rfl, h2, h3⟩
      · have hko2 : k < o.length := by omega
        have hp : o[k]? = some o[k] := List.getElem?_eq_getElem hko2
        rw [if_neg (nI_ge hko2 (by omega)), if_neg (ge61 hk), s6_g2 h2.1, Option.bind_some, s6_r2 h2.1 hk, Option.bind_some, h3.2.2.2.1 k _ hp]
        obtain ⟨S6, e6, m6, h6⟩ := c_oi67 h2.1 (MS_TR h2 hab h4) hab hT h3 hp (nI k)
        dsimp only
        rw [e6, Option.bind_some]
        exact ⟨_, rfl, nI_1 _, MS_trans h2 m6, _, h6⟩)
  rw [e5, Option.bind_some]
  exact ⟨_, rfl, MS_trans m14 m5, h5.2.2.1, h5.2.2.2.1⟩
end CME
