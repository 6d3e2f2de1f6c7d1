/-! the class goes down and up the order -/
def tru (_ : Nat) : Bool := true
section CPA
variable {S : pS} {a b : Nat} {T : Tr}
theorem c_md2 (h : Sh S b sp6) (l1 : Nat) : ∃ S', iter (F_X6_measureDownwards_2 b l1) fu ((0 : Int32), S) = some S' ∧ MS S S' b [4, 5] [] ∧ ∀ c, c < 61 → cI (S'.2 (b + 4)) c = nI (if c = 0 then 1 else 0) ∧ cI (S'.2 (b + 5)) c = 0 :=
  iter_fu (F := F_X6_measureDownwards_2 b l1) (s := ((0 : Int32), S)) (fun i s => s.1 = nI i ∧ MS S s.2 b [4, 5] [] ∧ ∀ c, c < i → cI (s.2.2 (b + 4)) c = nI (if c = 0 then 1 else 0) ∧ cI (s.2.2 (b + 5)) c = 0) 61 (by decide) ⟨rfl, MS_refl h _ _, fun c hc => absurd hc (Nat.not_lt_zero _)⟩
    (by
      rintro ⟨x, S1⟩ ⟨h1, h2, h3⟩
      dsimp only at h1 h2 h3
      subst h1
      unfold F_X6_measureDownwards_2
      rw [if_pos le61]
      exact ⟨_, rfl, h2, h3⟩)
    (by
      rintro i ⟨x, S1⟩ hi ⟨h1, h2, h3⟩
      dsimp only at h1 h2 h3
      subst h1
      have e : F_X6_measureDownwards_2 b l1 (nI i, S1) = F_X6_measureDownwards_22 b l1 S1 (nI i) (b + 4) (nI i) (nI (if i = 0 then 1 else 0)) := by
        unfold F_X6_measureDownwards_2
        rw [if_neg (ge61 hi), s6_g4 h2.1, Option.bind_some]
        by_cases c : i = 0
        · rw [if_neg (fun z => z (by rw [c]; rfl)), if_pos c]; rfl
        · rw [if_pos (nI_n0 c (by omega)), if_neg c]; rfl
      rw [e]
      unfold F_X6_measureDownwards_22
      have s1 := sh_wI h2.1 (b + 4) i (nI (if i = 0 then 1 else 0))
      rw [s6_w4 h2.1 hi, Option.bind_some, s6_g5 s1, Option.bind_some, s6_w5 s1 hi, Option.bind_some, nI_1]
      refine ⟨_, rfl, rfl, MS_I (MS_I h2 (by decide) (by decide) (by decide) _ _) (by decide) (by decide) (by decide) _ _, fun c hc => ?_⟩
      dsimp only
      rw [s6_v5 s1, wI_ne _ _ _ (show b + 4 ≠ b + 5 by omega), wI_ne _ _ _ (show b + 5 ≠ b + 4 by omega), s6_v4 h2.1]
      by_cases e : c = i
      · subst e; rw [pu_at, pu_at]; exact ⟨rfl, rfl⟩
      · rw [pu_ne _ _ _ e, pu_ne _ _ _ e]; exact h3 c (by omega))
theorem c_md56 (hs : Sh S b sp6) (h : TR S a T) (hab : a + 7 ≤ b ∨ b + 8 ≤ a) (hT : tOk T) {k p : Nat} (hp : (ordT T)[k]? = some p) (l2 : Int32) (h10 : PJ (plk T k) p [] (cI (S.2 (b + 4)))) (h12 : DJ tru (dpk T tru k) p [] (cI (S.2 (b + 5)))) :
    ∃ S', iter (F_X6_measureDownwards_56 b a l2 (nI p)) fu ((0 : Int32), S) = some S' ∧ MS S S' b [4, 5] [] ∧ PJ (plk T k) p (tKids T p) (cI (S'.2 (b + 4))) ∧ DJ tru (dpk T tru k) p (tKids T p) (cI (S'.2 (b + 5))) := by
  have hpp := (ord_mem hT p).mp (List.mem_of_getElem? hp)
  have hp61 := tOk_lt hT hpp
  have l12 := (hT.2.2.2.1 p hpp).1
  have hkn := (hT.2.2.2.1 p hpp).2.1
  have hpk : p ∉ tKids T p := fun z => absurd rfl (tOk_kid hT hpp z).2.2.1
  exact iter_fu (F := F_X6_measureDownwards_56 b a l2 (nI p)) (s := ((0 : Int32), S)) (fun i s => s.1 = nI i ∧ MS S s.2 b [4, 5] [] ∧ PJ (plk T k) p ((tKids T p).take i) (cI (s.2.2 (b + 4))) ∧ DJ tru (dpk T tru k) p ((tKids T p).take i) (cI (s.2.2 (b + 5)))) (tKids T p).length (by omega) ⟨rfl, MS_refl hs _ _, by rw [List.take_zero]; exact h10, by rw [List.take_zero]; exact h12⟩
    (by
      rintro ⟨x, S1⟩ ⟨h1, h2, h3, h4⟩
      dsimp only at h1 h2 h3 h4
      subst h1
      have hR := MS_TR h2 hab h
      unfold F_X6_measureDownwards_56
      rw [c_count hR hp61 hpp, Option.bind_some, if_pos (Int32.le_refl _)]
      rw [List.take_length] at h3 h4
      exact ⟨_, rfl, h2, h3, h4⟩)
    (by
      rintro i ⟨x, S1⟩ hi ⟨h1, h2, h3, h4⟩
      dsimp only at h1 h2 h3 h4
      subst h1
      have hR := MS_TR h2 hab h
      have hc : (tKids T p)[i]? = some (tKids T p)[i] := List.getElem?_eq_getElem hi
      have hc61 := (tOk_kid hT hpp (List.getElem_mem hi)).2.2.2
      generalize (tKids T p)[i] = c at *
      have p5 := PJ_step hkn hc hpk hp61 hc61 h3
      obtain ⟨d1, d2, d5⟩ := DJ_step hkn hc hpk hp61 hc61 h4
      unfold F_X6_measureDownwards_56
      rw [c_count hR hp61 hpp, Option.bind_some, if_neg (nI_ge hi (by omega)), c_childAt hR hp61 (by omega) hpp hc, Option.bind_some, s6_g4 h2.1, Option.bind_some, s6_r4 h2.1 hc61, Option.bind_some, Option.bind_some, s6_r4 h2.1 hp61, Option.bind_some, s6_w4 h2.1 hc61, Option.bind_some]
      have hs2 := sh_wI h2.1 (b + 4) c (cI (S1.2 (b + 4)) c + cI (S1.2 (b + 4)) p)
      have h22 : MS S (wI S1 (b + 4) c (cI (S1.2 (b + 4)) c + cI (S1.2 (b + 4)) p)) b [4, 5] [] := MS_I h2 (by decide) (by decide) (by decide) _ _
      have v10 := s6_v4 h2.1 c (cI (S1.2 (b + 4)) c + cI (S1.2 (b + 4)) p)
      have v12 : (wI S1 (b + 4) c (cI (S1.2 (b + 4)) c + cI (S1.2 (b + 4)) p)).2 (b + 5) = S1.2 (b + 5) := wI_ne _ _ _ (by omega)
      generalize wI S1 (b + 4) c (cI (S1.2 (b + 4)) c + cI (S1.2 (b + 4)) p) = S2 at *
      rw [← v10] at p5
      rw [← v12] at d1 d2 d5
      rw [s6_g5 hs2, Option.bind_some, Option.bind_some, s6_r5 hs2 hc61, Option.bind_some, Option.bind_some, s6_r5 hs2 hp61, Option.bind_some, s6_w5 hs2 hc61, Option.bind_some, d1, d2]
      refine ⟨_, rfl, nI_1 _, MS_I h22 (by decide) (by decide) (by decide) _ _, ?_, ?_⟩
      · dsimp only
        rw [wI_ne _ _ _ (show b + 4 ≠ b + 5 by omega)]; exact p5
      · dsimp only
        rw [s6_v5 hs2]
        have e9 : (if dpk T tru k c < dpk T tru k p + 1 then dpk T tru k p + 1 else dpk T tru k c) = (if tru p = true ∧ dpk T tru k c < dpk T tru k p + 1 then dpk T tru k p + 1 else dpk T tru k c) := by
          by_cases q : dpk T tru k c < dpk T tru k p + 1
          · rw [if_pos q, if_pos ⟨rfl, q⟩]
          · rw [if_neg q, if_neg (fun z => q z.2)]
        rw [e9]
        exact d5)
theorem c_md (hs : Sh S b sp6) (h : TR S a T) (hab : a + 7 ≤ b ∨ b + 8 ≤ a) (hT : tOk T) (hn : fI (S.2 b) 3 = nI (ordT T).length) (ho : ∀ j c, (ordT T)[j]? = some c → cI (S.2 (b + 3)) j = nI c) :
    ∃ S', F_X6_measureDownwards S b a = some S' ∧ MS S S' b [4, 5] [] ∧ ∀ c, c < 61 → cI (S'.2 (b + 4)) c = nI (plcT T c) ∧ cI (S'.2 (b + 5)) c = dpk T tru (ordT T).length c := by
  unfold F_X6_measureDownwards
  have hl := ord_len hT
  obtain ⟨S1, e1, m1, z1⟩ := c_md2 hs a
  rw [s6_oF hs, e1, Option.bind_some]
  obtain ⟨S2, e2, m2, w2⟩ := iter_fu (F := F_X6_measureDownwards_38 b a) (s := ((0 : Int32), S1)) (fun k s => s.1 = nI k ∧ MS S1 s.2 b [4, 5] [] ∧ ∀ c, c < 61 → cI (s.2.2 (b + 4)) c = nI (plk T k c) ∧ cI (s.2.2 (b + 5)) c = dpk T tru k c) (P := fun S' => MS S1 S' b [4, 5] [] ∧ ∀ c, c < 61 → cI (S'.2 (b + 4)) c = nI (plcT T c) ∧ cI (S'.2 (b + 5)) c = dpk T tru (ordT T).length c) (ordT T).length (by omega) ⟨rfl, MS_refl m1.1 _ _, z1⟩
    (by
      rintro ⟨x, S3⟩ ⟨h1, h2, h3⟩
      dsimp only at h1 h2 h3
      subst h1
      unfold F_X6_measureDownwards_38
      rw [s6_g3 h2.1, Option.bind_some, h2.2.2.2.2 3 (by decide), m1.2.2.2.2 3 (by decide), hn, if_pos (Int32.le_refl _)]
      rw [plk_all] at h3
      exact ⟨_, rfl, h2, h3⟩)
    (by
      rintro k ⟨x, S3⟩ hk ⟨h1, h2, h3⟩
      dsimp only at h1 h2 h3
      subst h1
      have hp : (ordT T)[k]? = some (ordT T)[k] := List.getElem?_eq_getElem hk
      generalize (ordT T)[k] = p at *
      obtain ⟨S4, e, m4, j1, j2⟩ := c_md56 h2.1 (MS_TR h2 hab (MS_TR m1 hab h)) hab hT hp (nI k) (fun c hc => by simpa using (h3 c hc).1) (fun c hc => by simpa using (h3 c hc).2)
      unfold F_X6_measureDownwards_38
      rw [s6_g3 h2.1, Option.bind_some, h2.2.2.2.2 3 (by decide), m1.2.2.2.2 3 (by decide), hn, if_neg (nI_ge hk (by omega)), s6_g2 h2.1, Option.bind_some, s6_r2 h2.1 (by omega), Option.bind_some, h2.2.2.2.1 3 (by decide) (by decide), m1.2.2.2.1 3 (by decide) (by decide), ho k p hp]
      dsimp only
      rw [e, Option.bind_some]
      refine ⟨_, rfl, nI_1 _, MS_trans h2 m4, fun c hc => ⟨?_, ?_⟩⟩
      · rw [plk_succ hp]; exact j1 c hc
      · rw [dpk_succ hp]; exact j2 c hc)
  rw [e2, Option.bind_some]
  exact ⟨_, rfl, MS_trans m1 m2, w2⟩
/-- up: the items of D are done, p is under way, K of its children are done -/
def VJ (D : List Nat) (w0 : Nat → Nat) (f0 : Nat → Int64) (p : Nat) (K : List Nat) (w : Nat → Int32) (f : Nat → Int64) : Prop := (∀ c, c ∈ D → w c = nI (w0 c) ∧ f c = f0 c) ∧ w p = nI (K.map fun c => 1 + w0 c).sum ∧ f p = K.foldl (fun x c => x ||| f0 c) (bitL p)
theorem c_mu37 (hs : Sh S b sp6) (h : TR S a T) (hab : a + 7 ≤ b ∨ b + 8 ≤ a) (hT : tOk T) {p : Nat} (hpp : tPres T p = true) (l2 : Int32) {D : List Nat} {w0 : Nat → Nat} {f0 : Nat → Int64} (hD : ∀ c, c ∈ tKids T p → c ∈ D) (hpD : p ∉ D) (hV : VJ D w0 f0 p [] (cI (S.2 (b + 6))) (cJ (S.2 (b + 7)))) :
    ∃ S', iter (F_X6_measureUpwards_37 b a l2 (nI p)) fu ((0 : Int32), S) = some S' ∧ MS S S' b [6, 7] [] ∧ VJ D w0 f0 p (tKids T p) (cI (S'.2 (b + 6))) (cJ (S'.2 (b + 7))) := by
  have hp61 := tOk_lt hT hpp
  have l12 := (hT.2.2.2.1 p hpp).1
  exact iter_fu (F := F_X6_measureUpwards_37 b a l2 (nI p)) (s := ((0 : Int32), S)) (fun i s => s.1 = nI i ∧ MS S s.2 b [6, 7] [] ∧ VJ D w0 f0 p ((tKids T p).take i) (cI (s.2.2 (b + 6))) (cJ (s.2.2 (b + 7)))) (tKids T p).length (by omega) ⟨rfl, MS_refl hs _ _, by rw [List.take_zero]; exact hV⟩
    (by
      rintro ⟨x, S1⟩ ⟨h1, h2, h3⟩
      dsimp only at h1 h2 h3
      subst h1
      have hR := MS_TR h2 hab h
      unfold F_X6_measureUpwards_37
      rw [c_count hR hp61 hpp, Option.bind_some, if_pos (Int32.le_refl _)]
      rw [List.take_length] at h3
      exact ⟨_, rfl, h2, h3⟩)
    (by
      rintro i ⟨x, S1⟩ hi ⟨h1, h2, v1, v2, v3⟩
      dsimp only at h1 h2 v1 v2 v3
      subst h1
      have hR := MS_TR h2 hab h
      have hc : (tKids T p)[i]? = some (tKids T p)[i] := List.getElem?_eq_getElem hi
      have htake : (tKids T p).take (i + 1) = (tKids T p).take i ++ [(tKids T p)[i]] := List.take_succ_eq_append_getElem hi
      have hc61 := (tOk_kid hT hpp (List.getElem_mem hi)).2.2.2
      have hcD := hD _ (List.getElem_mem hi)
      have hcp := (tOk_kid hT hpp (List.getElem_mem hi)).2.2.1
      generalize (tKids T p)[i] = c at *
      unfold F_X6_measureUpwards_37
      rw [c_count hR hp61 hpp, Option.bind_some, if_neg (nI_ge hi (by omega)), c_childAt hR hp61 (by omega) hpp hc, Option.bind_some, s6_g6 h2.1, Option.bind_some, s6_r6 h2.1 hp61, Option.bind_some, Option.bind_some, s6_r6 h2.1 hc61, Option.bind_some, s6_w6 h2.1 hp61, Option.bind_some]
      have hs2 := sh_wI h2.1 (b + 6) p (cI (S1.2 (b + 6)) p + ((1 : Int32) + cI (S1.2 (b + 6)) c))
      have h22 : MS S (wI S1 (b + 6) p (cI (S1.2 (b + 6)) p + ((1 : Int32) + cI (S1.2 (b + 6)) c))) b [6, 7] [] := MS_I h2 (by decide) (by decide) (by decide) _ _
      have e6 := s6_v6 h2.1 p (cI (S1.2 (b + 6)) p + ((1 : Int32) + cI (S1.2 (b + 6)) c))
      have e7 : (wI S1 (b + 6) p (cI (S1.2 (b + 6)) p + ((1 : Int32) + cI (S1.2 (b + 6)) c))).2 (b + 7) = S1.2 (b + 7) := wI_ne _ _ _ (by omega)
      generalize wI S1 (b + 6) p (cI (S1.2 (b + 6)) p + ((1 : Int32) + cI (S1.2 (b + 6)) c)) = S2 at *
      rw [s6_g7 hs2, Option.bind_some, s6_r7 hs2 hp61, Option.bind_some, Option.bind_some, s6_r7 hs2 hc61, Option.bind_some, s6_w7 hs2 hp61, Option.bind_some]
      refine ⟨_, rfl, nI_1 _, MS_J h22 (by decide) (by decide) (by decide) _ _, fun x hx => ?_, ?_, ?_⟩
      · dsimp only
        have xp : x ≠ p := fun z => hpD (z ▸ hx)
        rw [wJ_ne _ _ _ (show b + 6 ≠ b + 7 by omega), s6_v7 hs2, e6, e7, pu_ne _ _ _ xp, pu_ne _ _ _ xp]
        exact v1 x hx
      · dsimp only
        rw [wJ_ne _ _ _ (show b + 6 ≠ b + 7 by omega), e6, pu_at, v2, (v1 c hcD).1, li_1, nI_add, nI_add, htake, List.map_append, List.sum_append]
        simp
      · dsimp only
        rw [s6_v7 hs2, pu_at, e7, v3, (v1 c hcD).2, htake, List.foldl_append]
        rfl)
theorem c_mu (hs : Sh S b sp6) (h : TR S a T) (hab : a + 7 ≤ b ∨ b + 8 ≤ a) (hT : tOk T) (hn : fI (S.2 b) 3 = nI (ordT T).length) (ho : ∀ j c, (ordT T)[j]? = some c → cI (S.2 (b + 3)) j = nI c) :
    ∃ S', F_X6_measureUpwards S b a = some S' ∧ MS S S' b [6, 7] [] ∧ ∀ c, tPres T c = true → cI (S'.2 (b + 6)) c = nI (wayT T c) ∧ cJ (S'.2 (b + 7)) c = famT T c := by
  unfold F_X6_measureUpwards
  have hl := ord_len hT
  rw [s6_oF hs, s6_g3 hs, Option.bind_some, hn]
  obtain ⟨S2, e2, m2, w2⟩ := iter_fu (F := F_X6_measureUpwards_7 b a) (s := (nI (ordT T).length - 1, S)) (fun t s => s.1 = nI ((ordT T).length - t) - 1 ∧ MS S s.2 b [6, 7] [] ∧ ∀ c, c ∈ (ordT T).drop ((ordT T).length - t) → cI (s.2.2 (b + 6)) c = nI (upf (wayg T) ((ordT T).drop ((ordT T).length - t)) (fun _ => 0) c) ∧ cJ (s.2.2 (b + 7)) c = upf (famg T) ((ordT T).drop ((ordT T).length - t)) (fun _ => 0) c)
    (P := fun S' => MS S S' b [6, 7] [] ∧ ∀ c, tPres T c = true → cI (S'.2 (b + 6)) c = nI (wayT T c) ∧ cJ (S'.2 (b + 7)) c = famT T c) (ordT T).length (by omega) ⟨rfl, MS_refl hs _ _, fun c hc => by rw [Nat.sub_zero, List.drop_length] at hc; cases hc⟩
    (by
      rintro ⟨x, S1⟩ ⟨h1, h2, h3⟩
      dsimp only at h1 h2 h3
      rw [Nat.sub_self] at h1 h3
      rw [List.drop_zero] at h3
      subst h1
      unfold F_X6_measureUpwards_7
      rw [if_pos (by show nI 0 - 1 < 0; decide)]
      exact ⟨_, rfl, h2, fun c hc => h3 c ((ord_mem hT c).mpr hc)⟩)
    (by
      rintro t ⟨x, S1⟩ ht ⟨h1, h2, h3⟩
      dsimp only at h1 h2 h3
      obtain ⟨u, hu⟩ : ∃ u, (ordT T).length - t = u + 1 := ⟨(ordT T).length - t - 1, by omega⟩
      rw [hu] at h1 h3
      rw [nI_pred] at h1
      subst h1
      have hul : u < (ordT T).length := by omega
      have hp : (ordT T)[u]? = some (ordT T)[u] := List.getElem?_eq_getElem hul
      have hdrop : (ordT T).drop u = (ordT T)[u] :: (ordT T).drop (u + 1) := List.drop_eq_getElem_cons hul
      generalize (ordT T)[u] = p at *
      have hpp := (ord_mem hT p).mp (List.mem_of_getElem? hp)
      have hp61 := tOk_lt hT hpp
      have hnin := ord_nin hT hp
      unfold F_X6_measureUpwards_7
      rw [if_neg (nI_pos (by omega)), s6_g2 h2.1, Option.bind_some, s6_r2 h2.1 (by omega), Option.bind_some, h2.2.2.2.1 3 (by decide) (by decide), ho u p hp, s6_g6 h2.1, Option.bind_some]
      dsimp only
      rw [s6_w6 h2.1 hp61, Option.bind_some]
      have hs2 := sh_wI h2.1 (b + 6) p 0
      have h22 : MS S (wI S1 (b + 6) p 0) b [6, 7] [] := MS_I h2 (by decide) (by decide) (by decide) _ _
      have e6 := s6_v6 h2.1 p 0
      have e7 : (wI S1 (b + 6) p 0).2 (b + 7) = S1.2 (b + 7) := wI_ne _ _ _ (by omega)
      generalize wI S1 (b + 6) p 0 = S2 at *
      rw [s6_g7 hs2, Option.bind_some, s6_w7 hs2 hp61, Option.bind_some]
      have hs3 := sh_wJ hs2 (b + 7) p (bitL p)
      have h33 : MS S (wJ S2 (b + 7) p (bitL p)) b [6, 7] [] := MS_J h22 (by decide) (by decide) (by decide) _ _
      have f6 : (wJ S2 (b + 7) p (bitL p)).2 (b + 6) = S2.2 (b + 6) := wJ_ne _ _ _ (by omega)
      have f7 := s6_v7 hs2 p (bitL p)
      have ebit : ((1 : Int64) <<< ((nI p).toInt64 &&& 63)) = bitL p := rfl
      rw [ebit]
      generalize wJ S2 (b + 7) p (bitL p) = S3 at *
      obtain ⟨S4, e4, m4, v1, v2, v3⟩ := c_mu37 hs3 (MS_TR h33 hab h) hab hT hpp (nI u) (D := (ordT T).drop (u + 1)) (w0 := upf (wayg T) ((ordT T).drop (u + 1)) (fun _ => 0)) (f0 := upf (famg T) ((ordT T).drop (u + 1)) (fun _ => 0)) (fun c hc => ord_kid hT (ord_split hp) hc) hnin
        (by
          refine ⟨fun c hc => ?_, ?_, ?_⟩
          · have cp : c ≠ p := fun z => hnin (z ▸ hc)
            rw [f6, e6, f7, e7, pu_ne _ _ _ cp, pu_ne _ _ _ cp]
            exact h3 c hc
          · rw [f6, e6, pu_at]; rfl
          · rw [f7, pu_at]; rfl)
      rw [e4, Option.bind_some]
      have eu : (ordT T).length - (t + 1) = u := by omega
      refine ⟨_, rfl, ?_, MS_trans h33 m4, fun c hc => ?_⟩
      · show nI u + (-1) = nI ((ordT T).length - (t + 1)) - 1
        rw [eu, neg_nI]
      · dsimp only at hc ⊢
        rw [eu] at hc ⊢
        rw [upf_drop _ _ hp, upf_drop _ _ hp]
        rw [hdrop] at hc
        rcases List.mem_cons.mp hc with z | z
        · subst z
          rw [pu_at, pu_at, v2, v3]
          exact ⟨rfl, rfl⟩
        · have cp : c ≠ p := fun e => hnin (e ▸ z)
          rw [pu_ne _ _ _ cp, pu_ne _ _ _ cp]
          exact v1 c z)
  rw [e2, Option.bind_some]
  exact ⟨_, rfl, m2, w2⟩
/-- what a survey knows of an outline -/
def SK (S : pS) (b : Nat) (T : Tr) : Prop := Sh S b sp6 ∧ fI (S.2 b) 3 = nI (ordT T).length ∧ (∀ j c, (ordT T)[j]? = some c → cI (S.2 (b + 3)) j = nI c) ∧
  (∀ c, c < 61 → cI (S.2 (b + 1)) c = nI (par T c).length ∧ cI (S.2 (b + 4)) c = nI (plcT T c) ∧ cI (S.2 (b + 5)) c = dpk T tru (ordT T).length c) ∧
  ∀ c, tPres T c = true → cI (S.2 (b + 6)) c = nI (wayT T c) ∧ cJ (S.2 (b + 7)) c = famT T c
theorem c_measure (hs : Sh S b sp6) (h : TR S a T) (hab : a + 7 ≤ b ∨ b + 8 ≤ a) (hT : tOk T) : ∃ S', F_X6_measure S b a = some S' ∧ MS S S' b [1, 2, 3, 4, 5, 6, 7] [3] ∧ SK S' b T := by
  unfold F_X6_measure
  obtain ⟨S1, e1, m1, w1⟩ := c_countPar hs h hab hT
  rw [s6_oF hs, e1, Option.bind_some]
  have h1 := MS_TR m1 hab h
  obtain ⟨S2, e2, m2, n2, o2⟩ := c_order m1.1 h1 hab hT w1
  rw [e2, Option.bind_some]
  have h2 := MS_TR m2 hab h1
  obtain ⟨S3, e3, m3, w3⟩ := c_md m2.1 h2 hab hT n2 o2
  rw [e3, Option.bind_some]
  have h3 := MS_TR m3 hab h2
  have n3 : fI (S3.2 b) 3 = nI (ordT T).length := by rw [m3.2.2.2.2 3 (by decide)]; exact n2
  have o3 : ∀ j c, (ordT T)[j]? = some c → cI (S3.2 (b + 3)) j = nI c := fun j c hc => by rw [m3.2.2.2.1 3 (by decide) (by decide)]; exact o2 j c hc
  obtain ⟨S4, e4, m4, w4⟩ := c_mu m3.1 h3 hab hT n3 o3
  rw [e4, Option.bind_some]
  refine ⟨_, rfl, MS_trans (MS_sub m1 (by decide) (by decide)) (MS_trans (MS_sub m2 (by decide) (by decide)) (MS_trans (MS_sub m3 (by decide) (by decide)) (MS_sub m4 (by decide) (by decide)))), m4.1, ?_, fun j c hc => ?_, fun c hc => ?_, w4⟩
  · rw [m4.2.2.2.2 3 (by decide)]; exact n3
  · rw [m4.2.2.2.1 3 (by decide) (by decide)]; exact o3 j c hc
  · rw [m4.2.2.2.1 1 (by decide) (by decide), m4.2.2.2.1 4 (by decide) (by decide), m4.2.2.2.1 5 (by decide) (by decide), m3.2.2.2.1 1 (by decide) (by decide), m2.2.2.2.1 1 (by decide) (by decide)]
    exact ⟨(w1 c hc).1, w3 c hc⟩
end CPA
