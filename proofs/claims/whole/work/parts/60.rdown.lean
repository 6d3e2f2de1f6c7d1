/-! the reference goes down the order -/
section RDN
variable {S : pS} {m : Nat} {T : Tr}
theorem r_kn6 (h : Sh S m sp10) : ∃ S', iter (F_X10_knows_6 m) fu ((0 : Int32), S) = some S' ∧ MR S S' m [10, 11, 12, 13] [] ∧ ∀ c, c < 61 → cI (S'.2 (m + 10)) c = nI (if c = 0 then 1 else 0) ∧ cI (S'.2 (m + 11)) c = 0 ∧ cI (S'.2 (m + 12)) c = 0 ∧ cJ (S'.2 (m + 13)) c = 0 :=
  iter_fu (F := F_X10_knows_6 m) (s := ((0 : Int32), S)) (fun i s => s.1 = nI i ∧ MR S s.2 m [10, 11, 12, 13] [] ∧ ∀ c, c < i → cI (s.2.2 (m + 10)) c = nI (if c = 0 then 1 else 0) ∧ cI (s.2.2 (m + 11)) c = 0 ∧ cI (s.2.2 (m + 12)) c = 0 ∧ cJ (s.2.2 (m + 13)) c = 0) 61 (by decide) ⟨rfl, MR_refl h _ _, fun c hc => absurd hc (Nat.not_lt_zero _)⟩
    (by
      rintro ⟨b, S1⟩ ⟨h1, h2, h3⟩
      dsimp only at h1 h2 h3
      subst h1
      unfold F_X10_knows_6
      rw [if_pos le61]
      exact ⟨_, rfl, h2, h3⟩)
    (by
      rintro i ⟨b, S1⟩ hi ⟨h1, h2, h3⟩
      dsimp only at h1 h2 h3
      subst h1
      have e : F_X10_knows_6 m (nI i, S1) = F_X10_knows_26 m S1 (nI i) (m + 10) (nI i) (nI (if i = 0 then 1 else 0)) := by
        unfold F_X10_knows_6
        rw [if_neg (ge61 hi), s10_g16 h2.1, Option.bind_some]
        by_cases c : i = 0
        · rw [if_neg (fun z => z (by rw [c]; rfl)), if_pos c]; rfl
        · rw [if_pos (nI_n0 c (by omega)), if_neg c]; rfl
      rw [e]
      unfold F_X10_knows_26
      have s1 := sh_wI h2.1 (m + 10) i (nI (if i = 0 then 1 else 0))
      rw [s10_w16 h2.1 hi, Option.bind_some, s10_g17 s1, Option.bind_some, s10_w17 s1 hi, Option.bind_some]
      have s2 := sh_wI s1 (m + 11) i 0
      rw [s10_g18 s2, Option.bind_some, s10_w18 s2 hi, Option.bind_some]
      have s3 := sh_wI s2 (m + 12) i 0
      rw [s10_g19 s3, Option.bind_some, s10_w19 s3 hi, Option.bind_some, nI_1]
      refine ⟨_, rfl, rfl, MR_J (MR_I (MR_I (MR_I h2 (by decide) (by decide) (by decide) _ _) (by decide) (by decide) (by decide) _ _) (by decide) (by decide) (by decide) _ _) (by decide) (by decide) (by decide) _ _, fun c hc => ?_⟩
      dsimp only
      rw [s10_v19 s3, wJ_ne _ _ _ (show m + 10 ≠ m + 13 by omega), wJ_ne _ _ _ (show m + 11 ≠ m + 13 by omega), wJ_ne _ _ _ (show m + 12 ≠ m + 13 by omega), s10_v18 s2, wI_ne _ _ _ (show m + 10 ≠ m + 12 by omega), wI_ne _ _ _ (show m + 11 ≠ m + 12 by omega), wI_ne _ _ _ (show m + 13 ≠ m + 12 by omega), s10_v17 s1, wI_ne _ _ _ (show m + 10 ≠ m + 11 by omega), wI_ne _ _ _ (show m + 12 ≠ m + 11 by omega), wI_ne _ _ _ (show m + 13 ≠ m + 11 by omega), s10_v16 h2.1, wI_ne _ _ _ (show m + 11 ≠ m + 10 by omega), wI_ne _ _ _ (show m + 12 ≠ m + 10 by omega), wI_ne _ _ _ (show m + 13 ≠ m + 10 by omega)]
      by_cases e : c = i
      · subst e; rw [pu_at, pu_at, pu_at, pu_at]; exact ⟨rfl, rfl, rfl, rfl⟩
      · rw [pu_ne _ _ _ e, pu_ne _ _ _ e, pu_ne _ _ _ e, pu_ne _ _ _ e]; exact h3 c (by omega))
def rcd (T : Tr) (p : Nat) : Bool := decide (0 < nI (plcT T p))
theorem r_kn73 (h : RR S m T) (hT : tOk T) {k p : Nat} (hp : (ordT T)[k]? = some p) (l1 : Int32) (h10 : PJ (plk T k) p [] (cI (S.2 (m + 10)))) (h12 : DJ (rcd T) (dpk T (rcd T) k) p [] (cI (S.2 (m + 12)))) :
    ∃ S', iter (F_X10_knows_73 m l1 (nI p)) fu ((0 : Int32), S) = some S' ∧ MR S S' m [10, 12] [] ∧ PJ (plk T k) p (tKids T p) (cI (S'.2 (m + 10))) ∧ DJ (rcd T) (dpk T (rcd T) k) p (tKids T p) (cI (S'.2 (m + 12))) := by
  have hpp := (ord_mem hT p).mp (List.mem_of_getElem? hp)
  have hp61 := tOk_lt hT hpp
  have l12 := (hT.2.2.2.1 p hpp).1
  have hkn := (hT.2.2.2.1 p hpp).2.1
  have hpk : p ∉ tKids T p := fun z => absurd rfl (tOk_kid hT hpp z).2.2.1
  exact iter_fu (F := F_X10_knows_73 m l1 (nI p)) (s := ((0 : Int32), S)) (fun i s => s.1 = nI i ∧ MR S s.2 m [10, 12] [] ∧ PJ (plk T k) p ((tKids T p).take i) (cI (s.2.2 (m + 10))) ∧ DJ (rcd T) (dpk T (rcd T) k) p ((tKids T p).take i) (cI (s.2.2 (m + 12)))) (tKids T p).length (by omega) ⟨rfl, MR_refl h.1 _ _, by rw [List.take_zero]; exact h10, by rw [List.take_zero]; exact h12⟩
    (by
      rintro ⟨b, S1⟩ ⟨h1, h2, h3, h4⟩
      dsimp only at h1 h2 h3 h4
      subst h1
      have hR := MR_RR h2 (by decide) h
      unfold F_X10_knows_73
      rw [s10_g1 h2.1, Option.bind_some, li_916, nI_add, s10_r1 h2.1 (by omega), Option.bind_some, r_many hR hpp, if_pos (Int32.le_refl _)]
      rw [List.take_length] at h3 h4
      exact ⟨_, rfl, h2, h3, h4⟩)
    (by
      rintro i ⟨b, S1⟩ hi ⟨h1, h2, h3, h4⟩
      dsimp only at h1 h2 h3 h4
      subst h1
      have hR := MR_RR h2 (by decide) h
      have hc : (tKids T p)[i]? = some (tKids T p)[i] := List.getElem?_eq_getElem hi
      have hc61 := (tOk_kid hT hpp (List.getElem_mem hi)).2.2.2
      have hcp := (tOk_kid hT hpp (List.getElem_mem hi)).2.2.1
      generalize (tKids T p)[i] = c at *
      have p5 := PJ_step hkn hc hpk hp61 hc61 h3
      obtain ⟨d1, d2, d5⟩ := DJ_step hkn hc hpk hp61 hc61 h4
      have hplp : cI (S1.2 (m + 10)) p = nI (plcT T p) := by
        rw [h3 p hp61, if_neg (fun z => hpk (List.mem_of_mem_take z)), Nat.add_zero, plk_at hT hp]
      unfold F_X10_knows_73
      rw [s10_g1 h2.1, Option.bind_some, li_916, nI_add, s10_r1 h2.1 (by omega), Option.bind_some, r_many hR hpp, if_neg (nI_ge hi (by omega)), r_child hR hp61 (by omega) hpp hc, Option.bind_some, s10_g16 h2.1, Option.bind_some, s10_r16 h2.1 hc61, Option.bind_some, Option.bind_some, s10_r16 h2.1 hp61, Option.bind_some, s10_w16 h2.1 hc61, Option.bind_some]
      have hs2 := sh_wI h2.1 (m + 10) c (cI (S1.2 (m + 10)) c + cI (S1.2 (m + 10)) p)
      have h22 : MR S (wI S1 (m + 10) c (cI (S1.2 (m + 10)) c + cI (S1.2 (m + 10)) p)) m [10, 12] [] := MR_I h2 (by decide) (by decide) (by decide) _ _
      have v10 := s10_v16 h2.1 c (cI (S1.2 (m + 10)) c + cI (S1.2 (m + 10)) p)
      have v12 : (wI S1 (m + 10) c (cI (S1.2 (m + 10)) c + cI (S1.2 (m + 10)) p)).2 (m + 12) = S1.2 (m + 12) := wI_ne _ _ _ (by omega)
      generalize wI S1 (m + 10) c (cI (S1.2 (m + 10)) c + cI (S1.2 (m + 10)) p) = S2 at *
      rw [← v10] at p5
      have hpl2 : cI (S2.2 (m + 10)) p = nI (plcT T p) := by rw [v10, pu_ne _ _ _ hcp.symm]; exact hplp
      rw [← v12] at d1 d2 d5
      have fin : ∀ v, v = (if rcd T p = true ∧ dpk T (rcd T) k c < dpk T (rcd T) k p + 1 then dpk T (rcd T) k p + 1 else dpk T (rcd T) k c) → wp (F_X10_knows_162 m l1 (nI p) S2 (nI i) (m + 12) (nI c) v) (Sum.elim (fun s => s.1 = nI (i + 1) ∧ MR S s.2 m [10, 12] [] ∧ PJ (plk T k) p ((tKids T p).take (i + 1)) (cI (s.2.2 (m + 10))) ∧ DJ (rcd T) (dpk T (rcd T) k) p ((tKids T p).take (i + 1)) (cI (s.2.2 (m + 12)))) (fun S' => MR S S' m [10, 12] [] ∧ PJ (plk T k) p (tKids T p) (cI (S'.2 (m + 10))) ∧ DJ (rcd T) (dpk T (rcd T) k) p (tKids T p) (cI (S'.2 (m + 12))))) := by
        intro v hv
        unfold F_X10_knows_162
        rw [s10_w18 hs2 hc61, Option.bind_some]
        refine ⟨_, rfl, nI_1 _, MR_I h22 (by decide) (by decide) (by decide) _ _, ?_, ?_⟩
        · show PJ _ _ _ (cI ((wI S2 (m + 12) c v).2 (m + 10)))
          rw [wI_ne _ _ _ (by omega)]; exact p5
        · show DJ _ _ _ _ (cI ((wI S2 (m + 12) c v).2 (m + 12)))
          rw [s10_v18 hs2, hv]; exact d5
      rw [s10_g18 hs2, Option.bind_some, s10_g16 hs2, Option.bind_some, s10_r16 hs2 hp61, Option.bind_some, hpl2]
      by_cases q1 : nI (plcT T p) ≤ 0
      · rw [if_pos q1]
        unfold F_X10_knows_155
        rw [s10_g18 hs2, Option.bind_some, s10_r18 hs2 hc61, Option.bind_some, d1]
        refine fin _ ?_
        rw [if_neg]
        intro z
        have := of_decide_eq_true z.1
        exact absurd q1 (Int32.not_le.mpr this)
      · have q1' : rcd T p = true := decide_eq_true (Int32.not_le.mp q1)
        rw [if_neg q1, Option.bind_some, s10_r18 hs2 hp61, Option.bind_some, Option.bind_some, s10_r18 hs2 hc61, Option.bind_some, d1, d2]
        by_cases q2 : dpk T (rcd T) k p + 1 ≤ dpk T (rcd T) k c
        · rw [if_pos q2]
          unfold F_X10_knows_155
          rw [s10_g18 hs2, Option.bind_some, s10_r18 hs2 hc61, Option.bind_some, d1]
          refine fin _ ?_
          rw [if_neg (fun z => absurd q2 (Int32.not_le.mpr z.2))]
        · rw [if_neg q2]
          rw [Option.bind_some, s10_r18 hs2 hp61, Option.bind_some, d2]
          refine fin _ ?_
          rw [if_pos ⟨q1', Int32.not_le.mp q2⟩])
theorem r_kn56 (h : RR S m T) (hT : tOk T) (hn : fI (S.2 m) 20 = nI (ordT T).length) (ho : ∀ j c, (ordT T)[j]? = some c → cI (S.2 (m + 8)) j = nI c) (h0 : ∀ c, c < 61 → cI (S.2 (m + 10)) c = nI (if c = 0 then 1 else 0) ∧ cI (S.2 (m + 12)) c = 0) :
    ∃ S', iter (F_X10_knows_56 m) fu ((0 : Int32), S) = some S' ∧ MR S S' m [10, 12] [] ∧ ∀ c, c < 61 → cI (S'.2 (m + 10)) c = nI (plcT T c) ∧ cI (S'.2 (m + 12)) c = dpk T (rcd T) (ordT T).length c := by
  have hl := ord_len hT
  exact iter_fu (F := F_X10_knows_56 m) (s := ((0 : Int32), S)) (fun k s => s.1 = nI k ∧ MR S s.2 m [10, 12] [] ∧ ∀ c, c < 61 → cI (s.2.2 (m + 10)) c = nI (plk T k c) ∧ cI (s.2.2 (m + 12)) c = dpk T (rcd T) k c) (ordT T).length (by omega) ⟨rfl, MR_refl h.1 _ _, h0⟩
    (by
      rintro ⟨b, S1⟩ ⟨h1, h2, h3⟩
      dsimp only at h1 h2 h3
      subst h1
      unfold F_X10_knows_56
      rw [s10_g20 h2.1, Option.bind_some, h2.2.2.2.2 20 (by decide), hn, if_pos (Int32.le_refl _)]
      rw [plk_all] at h3
      exact ⟨_, rfl, h2, h3⟩)
    (by
      rintro k ⟨b, S1⟩ hk ⟨h1, h2, h3⟩
      dsimp only at h1 h2 h3
      subst h1
      have hp : (ordT T)[k]? = some (ordT T)[k] := List.getElem?_eq_getElem hk
      generalize (ordT T)[k] = p at *
      obtain ⟨S2, e, m2, j1, j2⟩ := r_kn73 (MR_RR h2 (by decide) h) hT hp (nI k) (fun c hc => by simpa using (h3 c hc).1) (fun c hc => by simpa using (h3 c hc).2)
      unfold F_X10_knows_56
      rw [s10_g20 h2.1, Option.bind_some, h2.2.2.2.2 20 (by decide), hn, if_neg (nI_ge hk (by omega)), s10_g14 h2.1, Option.bind_some, s10_r14 h2.1 (by omega), Option.bind_some, h2.2.2.2.1 8 (by decide) (by decide), ho k p hp]
      dsimp only
      rw [e, Option.bind_some]
      refine ⟨_, rfl, nI_1 _, MR_trans h2 m2, fun c hc => ⟨?_, ?_⟩⟩
      · rw [plk_succ hp]; exact j1 c hc
      · rw [dpk_succ hp]; exact j2 c hc)
end RDN
