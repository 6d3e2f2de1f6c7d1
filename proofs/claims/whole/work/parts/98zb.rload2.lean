/-! load: the reference, the call; sound states stay sound -/
section RL2
variable {S : pS} {m : Nat} {A : As} {L : List Ent} {T : Tr} {item : Nat}
theorem r_putLoop (hR : RR S m T) (hG : GB S m L []) (hL : ELo L) (hl : L.length ≤ 40) (hi : LodI T [] item 0) : ∃ r, iter (F_X10_load_38 m (nI item)) fu ((0 : Int32), S) = some r ∧ match lodE L item T L.length with
    | .inl s => ∃ S', r = .inr S' ∧ ML S S' m ∧ RR S' m s.1 ∧ fI (S'.2 m) 54 = nI L.length ∧ tOk s.1
    | .inr q => ∃ S', r = .inl (nI q.1, q.2, S') ∧ ML S S' m ∧ q.1 < 40 := by
  refine iter_fu (F := F_X10_load_38 m (nI item)) (s := ((0 : Int32), S)) (fun k s => s.1 = nI k ∧ ∃ s0, lodE L item T k = .inl s0 ∧ ML S s.2 m ∧ RR s.2 m s0.1 ∧ GB s.2 m L s0.2) L.length (by omega) ⟨rfl, _, rfl, MR_refl hR.1 _ _, hR, hG⟩ ?_ ?_
  · rintro ⟨b, S1⟩ ⟨h1, s0, h2, h3, h4, h5⟩
    dsimp only at h1 h3 h4 h5
    subst h1
    have ex : F_X10_load_38 m (nI item) (nI L.length, S1) = some (.inr (.inr S1)) := by
      unfold F_X10_load_38
      rw [s10_g54 h4.1, Option.bind_some, h5.2.1, if_pos (Int32.le_refl _)]
    rw [ex]
    refine ⟨_, rfl, ?_⟩
    show match lodE L item T L.length with
      | .inl s => ∃ S', Sum.inr S1 = (Sum.inr S' : (Int32 × Int32 × pS) ⊕ pS) ∧ ML S S' m ∧ RR S' m s.1 ∧ fI (S'.2 m) 54 = nI L.length ∧ tOk s.1
      | .inr q => ∃ S', Sum.inr S1 = (Sum.inl (nI q.1, q.2, S') : (Int32 × Int32 × pS) ⊕ pS) ∧ ML S S' m ∧ q.1 < 40
    rw [h2]
    exact ⟨S1, rfl, h3, h4, h5.2.1, (lod_inv hL hi _ (Nat.le_refl _) s0 h2).1.1⟩
  · rintro k ⟨b, S1⟩ hk ⟨h1, s0, h2, h3, h4, h5⟩
    dsimp only at h1 h3 h4 h5
    subst h1
    have inv := lod_inv hL hi k (by omega) s0 h2
    have st := r_putStep h4 h5 hL hl inv hk
    have es := lodE_s L item T k
    rw [h2] at es
    dsimp only at es
    cases er : stepE L item s0.1 s0.2 k with
    | inl s =>
      rw [er] at st es
      obtain ⟨S', a1, a2, a3, a4⟩ := st
      rw [a1]
      exact ⟨_, rfl, rfl, s, es, MR_trans h3 a2, a3, a4⟩
    | inr q =>
      rw [er] at st es
      obtain ⟨S', a1, a2, a3⟩ := st
      have em := lodE_mono es (L.length - (k + 1))
      rw [show k + 1 + (L.length - (k + 1)) = L.length by omega] at em
      rw [a1]
      refine ⟨_, rfl, ?_⟩
      show match lodE L item T L.length with
        | .inl s => ∃ S2, Sum.inl (nI q.1, q.2, S') = (Sum.inr S2 : (Int32 × Int32 × pS) ⊕ pS) ∧ ML S S2 m ∧ RR S2 m s.1 ∧ fI (S2.2 m) 54 = nI L.length ∧ tOk s.1
        | .inr q' => ∃ S2, Sum.inl (nI q.1, q.2, S') = (Sum.inl (nI q'.1, q'.2, S2) : (Int32 × Int32 × pS) ⊕ pS) ∧ ML S S2 m ∧ q'.1 < 40
      rw [em]
      exact ⟨S', rfl, MR_trans h3 a2, a3⟩
theorem r_load (h : RS S m A) (hA : aOk A) (x : Int32) : rC S m (F_X10_load S m x) (stLoad A x) := by
  unfold F_X10_load stLoad
  have hT := hA.1.1
  obtain ⟨S1, e1, h1, m1, t1⟩ := r_start h 0
  obtain ⟨S2, e2, h2, m2, f2⟩ := r_rem h1 hA
  have b2 : Bk S S2 m 41 := Bk_trans (Bk_MR m1) (Bk_MR m2)
  have t2 : fI (S2.2 m) 0 = 0 := by rw [m2.2.2.2.2 0 (by simp)]; exact t1
  rw [s10_oF h.1.1, e1, Option.bind_some, e2, Option.bind_some, r_isItem h2.1, Option.bind_some]
  rcases itN_c hT x with ⟨i, hi, rfl, hip, e, e3⟩ | ⟨e, e3⟩
  · rw [e, e3, ite5 rfl]
    dsimp only
    have ho := r_readsOutline h2 hA
    obtain ⟨r1, r2, r3⟩ := rdO_ok0 hA
    by_cases c : (rdO (aTx A) 40 0 []).1 = true
    · rw [if_pos c] at ho
      rw [if_pos c]
      obtain ⟨S3, e4, h3, m3, w3, v3⟩ := ho
      have hA1 := ok_tx0 hA
      have f3 : RT (cI (S3.2 (m + 3))) (aT A) := by rw [m3.2.2.2.1 3 (by decide) (by decide)]; exact f2
      have t3 : fI (S3.2 m) 0 = 0 := by rw [m3.2.2.2.2 0 (by decide)]; exact t2
      have b3 := Bk_trans b2 (Bk_MR m3)
      obtain ⟨r, e5, hr⟩ := r_putLoop (T := aT A) h3.1 ⟨w3, v3, fun j x hj => by simp at hj⟩ r2 r3 (lodi0 hA hip)
      rw [e4, Option.bind_some]
      dsimp only
      rw [if_pos (by decide), e5, Option.bind_some]
      cases el : lodE (rdO (aTx A) 40 0 []).2.2 i (aT A) (rdO (aTx A) 40 0 []).2.2.length with
      | inl s =>
        rw [el] at hr
        obtain ⟨S4, rfl, m4, r4, v4, k4⟩ := hr
        obtain ⟨S5, e6, h5, b5, t5⟩ := r_change h3 hA1 f3 m4 (by decide) (by decide) r4 k4
        simp only [Sum.elim_inr]
        rw [e6, Option.bind_some]
        obtain ⟨S6, e7, m6, n6⟩ : ∃ S6, F_X10_keeps S4 m = some S6 ∧ MR S4 S6 m [4] [5, 8] ∧ True := by
          have hX := RX_fr h3.2 m4 (by decide) (by decide)
          obtain ⟨S6, q1, q2, -⟩ := r_keeps r4 k4 hX hA1 (by rw [m4.2.2.2.1 3 (by decide) (by decide)]; exact f3)
          exact ⟨S6, q1, q2, trivial⟩
        rw [e6] at e7
        cases e7
        rw [s10_g54 h5.1.1, Option.bind_some, m6.2.2.2.2 54 (by decide), v4]
        exact ⟨_, _, rfl, h5, Bk_trans b3 b5, by rw [t5, m4.2.2.2.2 0 (by decide)]; exact t3, fun _ => rfl⟩
      | inr q =>
        rw [el] at hr
        obtain ⟨S4, rfl, m4, q40⟩ := hr
        obtain ⟨S5, e6, x5, d5, c5⟩ := r_takesBack m4.1
        have m5 := MR_ofMd x5 d5 (by decide) (by decide)
        have h5 : RS S5 m (aSetTx A []) := by
          refine ⟨⟨x5, RT_eq ?_ hT c5⟩, RX_fr (RX_fr h3.2 m4 (by decide) (by decide)) m5 (by decide) (by decide)⟩
          rw [m4.2.2.2.1 3 (by decide) (by decide)]
          exact f3
        simp only [Sum.elim_inl]
        rw [e6, Option.bind_some]
        exact rC_refuse (Bk_trans b3 (Bk_trans (Bk_MR m4) (Bk_MR m5))) h5 60 q.2 (some q.1) (fun k z => by cases z; omega) 3 0 (by decide)
    · rw [if_neg c] at ho
      rw [if_neg c]
      obtain ⟨S3, e4, h3, m3⟩ := ho
      rw [e4, Option.bind_some]
      exact rC_fail (Bk_trans b2 (Bk_MR m3)) h3 2 0 (by decide)
  · rw [e, e3, ite4 rfl]
    exact rC_fail b2 h2 1 0 (by decide)
end RL2
section OK4
variable {A : As}
theorem ok_er (hA : aOk A) {e : Nat} (he : e ≤ 80) : aOk (aSetEr (aSetTx A []) (some e)) := by
  obtain ⟨h1, h2, h3, h4, h5, h6, h7, h8, h9, h10⟩ := ok_tx0 hA
  exact ⟨h1, h2, h3, h4, h5, h6, h7, h8, (fun e' h => by cases h; exact he), h10⟩
theorem ok_add (hA : aOk A) (p i : Int32) : aOk (stAdd A p i).1 := by
  have hr : tName (aT A) 0 = [] := hA.2.2.2.2.2.2.2.2.2.2.2.2.1
  have hT := hA.1.1
  have hl := hA.2.2.2.2.2.2.1
  unfold stAdd
  rcases itN_c hT p with ⟨q, hq, rfl, hqp, e4, e5⟩ | ⟨e4, e5⟩
  · rw [e4]
    dsimp only
    have h12 := (hT.2.2.2.1 q hqp).1
    rcases ixN_c i (n := (tKids (aT A) q).length + 1) (by omega) with ⟨k, hk, rfl, ek⟩ | ⟨ek, -⟩
    · rw [ek]
      dsimp only
      by_cases c : nmOk (aTx A) = true
      · rw [if_pos c]
        by_cases r0 : reaN (aT A) q = 0
        · rw [if_pos r0]
          refine keep_aOk (ok_tx0 hA) (mk_put hA.1 hqp (show k ≤ (tKids (aT A) q).length by omega) (nmOk_nm c) r0) ?_
          show pu (tName (aT A)) (tMade (aT A) + 1) (aTx A) 0 = []
          rw [pu_ne _ _ _ (by omega)]
          exact hr
        · rw [if_neg r0]
          exact ch_aOk (ok_tx0 hA) (show 2 ≤ 3 by decide)
      · rw [if_neg c]
        have := ltC_le (tx := aTx A) (n := 10) (Nat.zero_le (aTx A).length)
        exact ok_er hA (by omega)
    · rw [ek]; exact hA
  · rw [e4]; exact hA
theorem ok_rename (hA : aOk A) (x : Int32) : aOk (stRename A x).1 := by
  have hr : tName (aT A) 0 = [] := hA.2.2.2.2.2.2.2.2.2.2.2.2.1
  have hT := hA.1.1
  have hl := hA.2.2.2.2.2.2.1
  unfold stRename
  by_cases c0 : x = 0
  · rw [if_pos c0]; exact hA
  · rw [if_neg c0]
    rcases itN_c hT x with ⟨i, hi, rfl, hip, e, e3⟩ | ⟨e, e3⟩
    · rw [e]
      dsimp only
      have hi0 : i ≠ 0 := fun z => c0 (by rw [z]; rfl)
      by_cases c : nmOk (aTx A) = true
      · rw [if_pos c]
        refine keep_aOk (ok_tx0 hA) (good_cg hA.1 rfl rfl rfl (fun j hj => ?_)) ?_
        · show (pu (tName (aT A)) i (aTx A) j).length ≤ 10 ∧ ∀ x, x ∈ pu (tName (aT A)) i (aTx A) j → 97 ≤ x ∧ x ≤ 122
          by_cases q : j = i
          · rw [q, pu_at]; exact nmOk_nm c
          · rw [pu_ne _ _ _ q]; exact hT.2.2.2.2.1 j hj
        · show pu (tName (aT A)) i (aTx A) 0 = []
          rw [pu_ne _ _ _ (Ne.symm hi0)]
          exact hr
      · rw [if_neg c]
        have := ltC_le (tx := aTx A) (n := 10) (Nat.zero_le (aTx A).length)
        exact ok_er hA (by omega)
    · rw [e]; exact hA
theorem ok_filter (hA : aOk A) : aOk (stFilter A).1 := by
  have hl := hA.2.2.2.2.2.2.1
  obtain ⟨r1, r2, r3⟩ := rdF_ok0 A
  unfold stFilter
  by_cases c0 : aTx A = []
  · rw [if_pos c0]
    exact ok_cn hA (L := []) (by show (0 : Nat) ≤ 5; omega) (fun q hq => by cases hq)
  · rw [if_neg c0]
    by_cases c : (rdF (aTx A) 5 0 []).1 = true
    · rw [if_pos c]; exact ok_cn hA r3 r2
    · rw [if_neg c]; exact ok_er hA (by omega)
theorem ok_load (hA : aOk A) (x : Int32) : aOk (stLoad A x).1 := by
  have hT := hA.1.1
  have hl := hA.2.2.2.2.2.2.1
  obtain ⟨r1, r2, r3⟩ := rdO_ok0 hA
  unfold stLoad
  rcases itN_c hT x with ⟨i, hi, rfl, hip, e, e3⟩ | ⟨e, e3⟩
  · rw [e]
    dsimp only
    by_cases c : (rdO (aTx A) 40 0 []).1 = true
    · rw [if_pos c]
      cases el : lodE (rdO (aTx A) 40 0 []).2.2 i (aT A) (rdO (aTx A) 40 0 []).2.2.length with
      | inl s =>
        have := lod_inv r2 (lodi0 hA hip) _ (Nat.le_refl _) s el
        exact keep_aOk (ok_tx0 hA) this.1 this.2.2.2.2
      | inr q =>
        exact ch_aOk (ok_tx0 hA) (show 3 ≤ 3 by decide)
    · rw [if_neg c]; exact ok_er hA (by omega)
  · rw [e]; exact hA
theorem ok_indent (hA : aOk A) (x : Int32) : aOk (stIndent A x).1 := by
  have hp := lines_pos A hA
  have hT := hA.1.1
  unfold stIndent
  rcases ixN_c x (n := (linesT A).length - 1) (by omega) with ⟨j, hj, rfl, e⟩ | ⟨e, hx⟩
  · rw [e]
    dsimp only
    obtain ⟨row, r, rw', dd, hl, hit, hi0, hi61, hk12⟩ := line_row hA (show j + 1 < (linesT A).length by omega)
    have hrl := LnR_abL hA hl
    rw [hrl.1, hrl.2]
    by_cases c : row.2.2.1 = 0
    · rw [if_pos c]; exact hA
    · rw [if_neg c]
      have hkl := (List.getElem?_eq_some_iff.mp hl.kid).1
      have hq : (tKids (aT A) rw'.1)[row.2.2.1 - 1]? = some ((tKids (aT A) rw'.1).getD (row.2.2.1 - 1) 0) := by
        rw [List.getD_eq_getElem?_getD, List.getElem?_eq_getElem (show row.2.2.1 - 1 < (tKids (aT A) rw'.1).length by omega)]; rfl
      have hqk := tOk_kid hT hl.pr (List.mem_of_getElem? hq)
      exact ok_moveOk hA 40 _ hl.pr hqk.1 (by omega) (Nat.le_refl _)
  · rw [e]; exact hA
theorem ok_outdent (hA : aOk A) (x : Int32) : aOk (stOutdent A x).1 := by
  have hp := lines_pos A hA
  have hT := hA.1.1
  unfold stOutdent
  rcases ixN_c x (n := (linesT A).length - 1) (by omega) with ⟨j, hj, rfl, e⟩ | ⟨e, hx⟩
  · rw [e]
    dsimp only
    obtain ⟨row, r, rw', dd, hl, hit, hi0, hi61, hk12⟩ := line_row hA (show j + 1 < (linesT A).length by omega)
    have hrl := LnR_abL hA hl
    rw [(LnR_abv hA hl).2.2, (LnR_abv hA hl).1, hrl.1, hrl.2]
    by_cases c : dd = 0
    · rw [if_pos c]; exact hA
    · rw [if_neg c]
      obtain ⟨d0, rfl⟩ : ∃ d0, dd = d0 + 1 := ⟨dd - 1, by omega⟩
      obtain ⟨j', r', rw2, rfl, hj', hl'⟩ := LnR_up hA hl
      have hrl' := LnR_abL hA hl'
      rw [Nat.add_sub_cancel, hrl'.1, hrl'.2]
      have hkl := (List.getElem?_eq_some_iff.mp hl.kid).1
      have hkl' := (List.getElem?_eq_some_iff.mp hl'.kid).1
      have hpk := tOk_kid hT hl'.pr (List.mem_of_getElem? hl'.kid)
      have hne : rw2.1 ≠ rw'.1 := fun z => hpk.2.2.1 z.symm
      have hlen : (tKids (bPul (aT A) rw'.1 row.2.2.1 1).1 rw2.1).length = (tKids (aT A) rw2.1).length := by rw [bPul_kids _ _ _ _ _ hne]
      exact ok_moveOk hA 50 _ hl.pr hl'.pr (by omega) (by omega)
  · rw [e]; exact hA
theorem ok_line (hA : aOk A) (x w : Int32) : aOk (stLine A x w).1 := by
  unfold stLine
  split
  · exact hA
  · split <;> exact hA
theorem ok_path (hA : aOk A) (x y : Int32) : aOk (stPath A x y).1 := by
  unfold stPath
  split
  · exact hA
  · split <;> exact hA
end OK4
