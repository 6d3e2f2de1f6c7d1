/-! add, rename: both sides -/
section ADD
variable {S : pS} {R : Nat → Option Nat} {c1 c2 m : Nat} {A : As}
def stAdd (A : As) (p i : Int32) : Rs := match itN (aT A) p with
  | none => (A, 1, 0)
  | some q => match ixN i ((tKids (aT A) q).length + 1) with
    | none => (A, 2, 0)
    | some k => if nmOk (aTx A) = true then (if reaN (aT A) q = 0 then (aKeep (aSetTx A []) (tPut (tMk (aT A) (aTx A)) q k (tMade (aT A) + 1)), 0, nI (tMade (aT A) + 1)) else (aSetCh (aSetTx A []) [10, reaN (aT A) q], 4, 0)) else (aSetEr (aSetTx A []) (some (ltC (aTx A) 10 0)), 3, 0)
def stRename (A : As) (x : Int32) : Rs := if x = 0 then (A, 1, 0) else match itN (aT A) x with
  | none => (A, 1, 0)
  | some i => if nmOk (aTx A) = true then (aKeep (aSetTx A []) (tSetN (aT A) i (aTx A)), 0, nI (tName (aT A) i).length) else (aSetEr (aSetTx A []) (some (ltC (aTx A) 10 0)), 2, 0)
def eN4 : Int32 → String := fun k => if k = 1 then nNSE else if k = 2 then nIOO else if k = 3 then nIAE else nUOE
theorem ok_tx0 (hA : aOk A) : aOk (aSetTx A []) := by
  obtain ⟨h1, h2, h3, h4, h5, h6, h7, h8, h9⟩ := hA
  exact ⟨h1, h2, h3, h4, h5, h6, by show (0 : Nat) ≤ 80; omega, (fun x hx => by cases hx), h9⟩
theorem reaN_0 (hT : tOk (aT A)) {p : Nat} (hp : tPres (aT A) p = true) (h : reaN (aT A) p = 0) : tMade (aT A) < 60 ∧ (tKids (aT A) p).length < 12 := by
  have h12 := (hT.2.2.2.1 p hp).1
  have h60 := hT.2.1
  unfold reaN at h
  by_cases c : tMade (aT A) = 60 ∨ (tKids (aT A) p).length = 12
  · rw [if_pos c] at h; exact absurd h (by decide)
  · omega
theorem c_add (h : CSr S A R c1 c2) (hA : aOk A) (p i : Int32) : cC S eN4 (F_X9_add S 0 p i) (stAdd A p i) := by
  unfold F_X9_add stAdd
  have hT := hA.1.1
  rw [x_oF h.1, c_needItem h, Option.bind_some]
  rcases itN_c hT p with ⟨q, hq, rfl, hqp, e, e3⟩ | ⟨e, e3⟩
  · rw [e, e3, if_pos rfl]
    simp only [Sum.elim_inl]
    obtain ⟨t, ht⟩ := cs_t h
    have htr := cs_tr h ht
    have h12 := (hT.2.2.2.1 q hqp).1
    rw [x_g0 h.1 ht, Option.bind_some, c_count htr hq hqp, Option.bind_some, c_needGap h i (by omega), Option.bind_some]
    rcases ixN_c i (n := (tKids (aT A) q).length + 1) (by omega) with ⟨k, hk, rfl, ek⟩ | ⟨ek, -⟩
    · rw [ek, if_pos (show (some k).isSome = true from rfl)]
      simp only [Sum.elim_inl]
      have htn := c_takeName h hA
      by_cases c : nmOk (aTx A) = true
      · rw [if_pos c] at htn
        rw [if_pos c]
        obtain ⟨S1, e1, h1, f1, w1⟩ := htn
        have hnm := nmOk_nm c
        have hA1 := ok_tx0 hA
        have htr1 : TR S1 t (aT A) := cs_tr h1 ht
        have hsk1 : SK S1 15 (aT A) := cs_sk (A := aSetTx A []) h1
        rw [e1, Option.bind_some]
        simp only [Sum.elim_inl]
        rw [(x_gs h1.1).1, Option.bind_some, x_g0 h1.1 ht, Option.bind_some, c_reasonNew hsk1 htr1 hT hqp, Option.bind_some]
        by_cases r0 : reaN (aT A) q = 0
        · obtain ⟨hm, hl12⟩ := reaN_0 hT hqp r0
          obtain ⟨t', d, S2, ht', hd, e2, h2, f2, t2, o2⟩ := c_copyD2 h1 hA1
          rw [ht] at ht'
          cases ht'
          obtain ⟨r1, g, r2, r3⟩ := h2.2.2.2.2.2.2.2.1.2.2.2.2.1
          have hdp := (h2.2.1.1 1 d (by omega) hd).1
          obtain ⟨S3, e4, t3, b3⟩ := c_makeItem (l := 66) (N := 10) (s := 0) (nm := aTx A) t2 hT hm hnm.1 r1 (by omega) r2 r3 (by decide) (by omega) (fun j x hx => by
            have := w1 j x hx
            rw [← o2 66 (by decide) (by decide), r2] at this
            rw [Nat.zero_add]; exact this)
          obtain ⟨h3, f3⟩ := c_draft h2 hd b3 t3.1
          have hmk := mk_ok hT hm hnm
          have hgood := mk_put hA.1 (k := k) hqp (show k ≤ (tKids (aT A) q).length by omega) hnm r0
          have hkk := mk_kids hT (aTx A) hqp
          obtain ⟨S4, e5, t4, b4⟩ := c_insert (c := tMade (aT A) + 1) t3 hmk (mk_pres hT (aTx A) hqp) (show k ≤ (tKids (tMk (aT A) (aTx A)) q).length by rw [hkk]; omega) (show (tKids (tMk (aT A) (aTx A)) q).length < 12 by rw [hkk]; exact hl12)
          obtain ⟨h4, f4⟩ := c_draft h3 hd b4 t4.1
          obtain ⟨S5, e6, h5, f5⟩ := c_adopt h4 hA1 hd t4 hgood.1
          have e4' : F_X8_makeItem S2 d 66 (0 : Int32) (nI (aTx A).length) = some (nI (tMade (aT A) + 1), S3) := e4
          rw [if_pos r0, if_pos r0, x_g1 h1.1 hd, Option.bind_some, Option.bind_some, e2, Option.bind_some, x_g1 h2.1 hd, Option.bind_some, (x_gs h2.1).2.2.2.2.2.2.2.2.2.2.1, Option.bind_some, e4', Option.bind_some]
          dsimp only
          rw [x_g1 h3.1 hd, Option.bind_some, e5, Option.bind_some, e6, Option.bind_some]
          exact cC_ok (Fm_trans f1 (Fm_trans f2 (Fm_trans f3 (Fm_trans f4 f5)))) h5
        · obtain ⟨S3, e4, h3, f3⟩ := c_keepCh h1 10 0 (reaN (aT A) q)
          have e4' : F_X0_keep S1 64 (10 : Int32) (0 : Int32) (reaN (aT A) q) = some S3 := e4
          rw [if_neg r0, if_neg r0, (x_gs h1.1).2.2.2.2.2.2.2.2.2.1, Option.bind_some, e4', Option.bind_some]
          rw [if_neg (by decide)] at h3
          exact cC_x (Fm_trans f1 f3) (cs_of h3) (by decide) rfl
      · rw [if_neg c] at htn
        rw [if_neg c]
        obtain ⟨S1, e1, h1, f1⟩ := htn
        rw [e1, Option.bind_some]
        exact cC_x f1 (cs_of h1) (by decide) rfl
    · rw [ek, if_neg (by simp)]
      exact cC_x (Fm_refl _) (cs_of h) (by decide) rfl
  · rw [e, e3, if_neg (by decide)]
    exact cC_x (Fm_refl _) (cs_of h) (by decide) rfl
theorem c_rename (h : CSr S A R c1 c2) (hA : aOk A) (x : Int32) : cC S (eN2 nIAE) (F_X9_rename S 0 x) (stRename A x) := by
  unfold F_X9_rename stRename
  have hT := hA.1.1
  rw [x_oF h.1, c_needNamed h, Option.bind_some]
  by_cases c0 : x = 0
  · rw [if_pos c0, if_neg (fun z => z.1 c0)]
    exact cC_x (Fm_refl _) (cs_of h) (by decide) rfl
  · rw [if_neg c0]
    rcases itN_c hT x with ⟨i, hi, rfl, hip, e, e3⟩ | ⟨e, e3⟩
    · rw [e, if_pos ⟨c0, e3⟩]
      simp only [Sum.elim_inl]
      obtain ⟨t, ht⟩ := cs_t h
      have htn := c_takeName h hA
      by_cases c : nmOk (aTx A) = true
      · rw [if_pos c] at htn
        rw [if_pos c]
        obtain ⟨S1, e1, h1, f1, w1⟩ := htn
        have hnm := nmOk_nm c
        have hA1 := ok_tx0 hA
        have htr1 : TR S1 t (aT A) := cs_tr h1 ht
        have hsk1 : SK S1 15 (aT A) := cs_sk (A := aSetTx A []) h1
        obtain ⟨t', d, S2, ht', hd, e2, h2, f2, t2, o2⟩ := c_copyD2 h1 hA1
        rw [ht] at ht'
        cases ht'
        obtain ⟨r1, g, r2, r3⟩ := h2.2.2.2.2.2.2.2.1.2.2.2.2.1
        have hdp := (h2.2.1.1 1 d (by omega) hd).1
        obtain ⟨S3, e4, t3, b3⟩ := c_setName (l := 66) (N := 10) (s := 0) (nm := aTx A) t2 hT hip hnm.1 r1 (by omega) r2 r3 (by decide) (by omega) (fun j x hx => by
          have := w1 j x hx
          rw [← o2 66 (by decide) (by decide), r2] at this
          rw [Nat.zero_add]; exact this)
        obtain ⟨h3, f3⟩ := c_draft h2 hd b3 t3.1
        have hgood : good (tSetN (aT A) i (aTx A)) := good_cg hA.1 rfl rfl rfl (fun j hj => by
          show (pu (tName (aT A)) i (aTx A) j).length ≤ 10 ∧ ∀ x, x ∈ pu (tName (aT A)) i (aTx A) j → 97 ≤ x ∧ x ≤ 122
          by_cases q : j = i
          · rw [q, pu_at]; exact hnm
          · rw [pu_ne _ _ _ q]; exact hT.2.2.2.2.1 j hj)
        obtain ⟨S5, e6, h5, f5⟩ := c_adopt h3 hA1 hd t3 hgood.1
        have e4' : F_X8_setName S2 d (nI i) 66 (0 : Int32) (nI (aTx A).length) = some S3 := e4
        rw [e1, Option.bind_some]
        simp only [Sum.elim_inl]
        rw [x_g0 h1.1 ht, Option.bind_some, c_nameLen htr1 hi hip, Option.bind_some, x_g1 h1.1 hd, Option.bind_some, Option.bind_some, e2, Option.bind_some, x_g1 h2.1 hd, Option.bind_some, (x_gs h2.1).2.2.2.2.2.2.2.2.2.2.1, Option.bind_some, e4', Option.bind_some, e6, Option.bind_some]
        exact cC_ok (Fm_trans f1 (Fm_trans f2 (Fm_trans f3 f5))) h5
      · rw [if_neg c] at htn
        rw [if_neg c]
        obtain ⟨S1, e1, h1, f1⟩ := htn
        rw [e1, Option.bind_some]
        exact cC_x f1 (cs_of h1) (by decide) rfl
    · rw [e, if_neg (fun z => by rw [e3] at z; cases z.2)]
      exact cC_x (Fm_refl _) (cs_of h) (by decide) rfl
/-! the reference -/
theorem refuses_0 {S S' : pS} {c x r b : Int32} (e : F_X10_refuses S m c x r = some (b, S')) : fI (S'.2 m) 0 = 4 := by
  have key : ∀ (S' : pS) (N : Int32), F_X10_refuses_11 S m c x r m N = some (b, S') → fI (S'.2 m) 0 = 4 := by
    intro S' N e
    unfold F_X10_refuses_11 F_X10_fails at e
    simp only [Option.bind_eq_some_iff] at e
    obtain ⟨S1, -, a2, -, S3, -, a4, -, S5, -, a6, -, a7, -, S8, -, q, ⟨u, -, S9, e9, e10⟩, e11⟩ := e
    cases e10
    cases e11
    unfold oPI oP at e9
    simp only [Option.bind_eq_some_iff] at e9
    obtain ⟨f, -, e12⟩ := e9
    cases e12
    show fI (pu S8.2 m _ m) 0 = 4
    rw [pu_at]
    show (match pu f 0 (.int 4) 0 with | .int x => x | _ => 0) = 4
    rw [pu_at]
  unfold F_X10_refuses at e
  obtain ⟨u, -, e2⟩ := Option.bind_eq_some_iff.mp e
  by_cases c1 : ¬ x = (-1 : Int32)
  · rw [if_pos c1] at e2; exact key _ _ e2
  · rw [if_neg c1] at e2; exact key _ _ e2
theorem r_add (h : RS S m A) (hA : aOk A) (p i : Int32) : rC S m (F_X10_add S m p i) (stAdd A p i) := by
  unfold F_X10_add stAdd
  have hT := hA.1.1
  obtain ⟨S1, e1, h1, m1, t1⟩ := r_start h 0
  obtain ⟨S2, e2, h2, m2, f2⟩ := r_rem h1 hA
  have b2 : Bk S S2 m 41 := Bk_trans (Bk_MR m1) (Bk_MR m2)
  have t2 : fI (S2.2 m) 0 = 0 := by rw [m2.2.2.2.2 0 (by simp)]; exact t1
  rw [s10_oF h.1.1, e1, Option.bind_some, e2, Option.bind_some, r_isItem h2.1, Option.bind_some]
  rcases itN_c hT p with ⟨q, hq, rfl, hqp, e, e3⟩ | ⟨e, e3⟩
  · rw [e, e3, ite5 rfl]
    dsimp only
    have h12 := (hT.2.2.2.1 q hqp).1
    rw [s10_g1 h2.1.1, Option.bind_some, li_916, nI_add, s10_r1 h2.1.1 (by omega), Option.bind_some, r_many h2.1 hqp, in_gap _ _ (by omega), Option.bind_some]
    rcases ixN_c i (n := (tKids (aT A) q).length + 1) (by omega) with ⟨k, hk, rfl, ek⟩ | ⟨ek, -⟩
    · rw [ek, ite5 (b := (some k).isSome) rfl]
      dsimp only
      have hnm0 := r_isName h2 hA
      by_cases c : nmOk (aTx A) = true
      · rw [if_pos c] at hnm0
        rw [if_pos c]
        obtain ⟨S3, e4, h3, m3, f22, w3⟩ := hnm0
        have hnm := nmOk_nm c
        have hA1 := ok_tx0 hA
        have f3 : RT (cI (S3.2 (m + 3))) (aT A) := by rw [m3.2.2.2.1 3 (by simp) (by decide)]; exact f2
        have t3 : fI (S3.2 m) 0 = 0 := by rw [m3.2.2.2.2 0 (by decide)]; exact t2
        have h31 : RR S3 m (aT A) := h3.1
        obtain ⟨S4, e5, m4, k4⟩ := r_reasonNew h31 hT hqp
        have h4 := RS_fr h3 m4 (by decide) (by decide) (by decide)
        rw [e4, Option.bind_some]
        dsimp only
        rw [if_pos (by decide), show F_X10_reasonFor S3 m (-1 : Int32) (nI q) = _ from e5, Option.bind_some]
        dsimp only
        by_cases r0 : reaN (aT A) q = 0
        · obtain ⟨hm, hl12⟩ := reaN_0 hT hqp r0
          rw [if_pos ((reaN_le _ _).mpr r0), if_pos r0]
          obtain ⟨S5, e6, m5, v5⟩ := r_makes h4.1.1 hm h4.1.2.1
          have m45 : MR S3 S5 m [1, 8, 9, 10, 11, 12, 13] [20] := MR_trans (MR_sub m4 (by decide) (by decide)) (MR_sub m5 (by decide) (by decide))
          obtain ⟨S6, e7, m6, v6⟩ := r_names (i := tMade (aT A) + 1) (fr := 0) (nm := aTx A) m5.1 (by omega) hnm.1 (by omega) (fun j x hx => by
            rw [Nat.zero_add, m45.2.2.2.1 6 (by decide) (by decide)]; exact w3 j x hx)
          have r6 : RR S6 m (tMk (aT A) (aTx A)) := ⟨m6.1, by rw [v6, v5]; exact RT_make h4.1.2 hT hm hnm.1⟩
          have hmk := mk_ok hT hm hnm
          have hgood := mk_put hA.1 (k := k) hqp (show k ≤ (tKids (aT A) q).length by omega) hnm r0
          have hkk := mk_kids hT (aTx A) hqp
          obtain ⟨S7, e8, r7, m7⟩ := r_puts r6 hmk (c := tMade (aT A) + 1) (mk_pres hT (aTx A) hqp) (show k ≤ (tKids (tMk (aT A) (aTx A)) q).length by rw [hkk]; omega) (show (tKids (tMk (aT A) (aTx A)) q).length < 12 by rw [hkk]; exact hl12)
          have mm : MR S3 S7 m [1, 8, 9, 10, 11, 12, 13] [20] := MR_trans m45 (MR_trans (MR_sub m6 (by decide) (by decide)) (MR_sub m7 (by decide) (by decide)))
          obtain ⟨S8, e9, h8, b8, t8⟩ := r_change h3 hA1 f3 mm (by decide) (by decide) r7 hgood.1
          have f22' : fI (S5.2 m) 22 = nI (0 + (aTx A).length) := by rw [m45.2.2.2.2 22 (by decide), Nat.zero_add]; exact f22
          have e7' : F_X10_names S5 m (nI (tMade (aT A) + 1)) (0 : Int32) (nI (0 + (aTx A).length)) = some S6 := e7
          rw [e6, Option.bind_some]
          dsimp only
          rw [s10_g22 m5.1, Option.bind_some, f22', e7', Option.bind_some, e8, Option.bind_some, e9, Option.bind_some]
          exact ⟨_, _, rfl, h8, Bk_trans b2 (Bk_trans (Bk_MR m3) b8), by rw [t8, mm.2.2.2.2 0 (by decide)]; exact t3, fun _ => rfl⟩
        · rw [if_neg (fun z => r0 ((reaN_le _ _).mp z)), if_neg r0]
          obtain ⟨S5, e6, h5, b5⟩ := r_refuses h4 10 none (fun k z => by cases z) (reaN (aT A) q)
          have e6' : F_X10_refuses S4 m (10 : Int32) (-1 : Int32) (reaN (aT A) q) = some (0, S5) := e6
          rw [e6', Option.bind_some]
          exact ⟨_, _, rfl, h5, Bk_trans b2 (Bk_trans (Bk_MR m3) (Bk_trans (Bk_MR m4) b5)), refuses_0 e6', fun z => absurd (show (4 : Int32) = 0 from z) (by decide)⟩
      · rw [if_neg c] at hnm0
        rw [if_neg c]
        obtain ⟨S3, e4, h3, m3⟩ := hnm0
        rw [e4, Option.bind_some]
        exact rC_fail (Bk_trans b2 (Bk_MR m3)) h3 3 0 (by decide)
    · rw [ek, ite4 (b := (none : Option Nat).isSome) rfl]
      exact rC_fail b2 h2 2 0 (by decide)
  · rw [e, e3, ite4 rfl]
    exact rC_fail b2 h2 1 0 (by decide)
theorem r_rename (h : RS S m A) (hA : aOk A) (x : Int32) : rC S m (F_X10_rename S m x) (stRename A x) := by
  unfold F_X10_rename stRename
  have hT := hA.1.1
  obtain ⟨S1, e1, h1, m1, t1⟩ := r_start h 0
  obtain ⟨S2, e2, h2, m2, f2⟩ := r_rem h1 hA
  have b2 : Bk S S2 m 41 := Bk_trans (Bk_MR m1) (Bk_MR m2)
  have t2 : fI (S2.2 m) 0 = 0 := by rw [m2.2.2.2.2 0 (by simp)]; exact t1
  rw [s10_oF h.1.1, e1, Option.bind_some, e2, Option.bind_some, r_isOther h2.1, Option.bind_some]
  by_cases c0 : x = 0
  · rw [if_pos c0, itp4 (fun z => z.1 c0)]
    exact rC_fail b2 h2 1 0 (by decide)
  · rw [if_neg c0]
    rcases itN_c hT x with ⟨i, hi, rfl, hip, e, e3⟩ | ⟨e, e3⟩
    · rw [e, itp5 (c := nI i ≠ 0 ∧ itm (aT A) (nI i) = true) ⟨c0, e3⟩]
      dsimp only
      have hnm0 := r_isName h2 hA
      by_cases c : nmOk (aTx A) = true
      · rw [if_pos c] at hnm0
        rw [if_pos c]
        obtain ⟨S3, e4, h3, m3, f22, w3⟩ := hnm0
        have hnm := nmOk_nm c
        have hA1 := ok_tx0 hA
        have f3 : RT (cI (S3.2 (m + 3))) (aT A) := by rw [m3.2.2.2.1 3 (by simp) (by decide)]; exact f2
        have t3 : fI (S3.2 m) 0 = 0 := by rw [m3.2.2.2.2 0 (by decide)]; exact t2
        obtain ⟨S6, e7, m6, v6⟩ := r_names (i := i) (fr := 0) (nm := aTx A) h3.1.1 hi hnm.1 (by omega) (fun j x hx => by rw [Nat.zero_add]; exact w3 j x hx)
        have r6 : RR S6 m (tSetN (aT A) i (aTx A)) := ⟨m6.1, by rw [v6]; exact RT_setN h3.1.2 hT hip hnm.1⟩
        have hgood : good (tSetN (aT A) i (aTx A)) := good_cg hA.1 rfl rfl rfl (fun j hj => by
          show (pu (tName (aT A)) i (aTx A) j).length ≤ 10 ∧ ∀ x, x ∈ pu (tName (aT A)) i (aTx A) j → 97 ≤ x ∧ x ≤ 122
          by_cases q : j = i
          · rw [q, pu_at]; exact hnm
          · rw [pu_ne _ _ _ q]; exact hT.2.2.2.2.1 j hj)
        obtain ⟨S8, e9, h8, b8, t8⟩ := r_change h3 hA1 f3 m6 (by decide) (by simp) r6 hgood.1
        have f22' : fI (S3.2 m) 22 = nI (0 + (aTx A).length) := by rw [Nat.zero_add]; exact f22
        have e7' : F_X10_names S3 m (nI i) (0 : Int32) (nI (0 + (aTx A).length)) = some S6 := e7
        rw [e4, Option.bind_some]
        dsimp only
        rw [if_pos (by decide), s10_g1 h3.1.1, Option.bind_some, li_245, nI_add, s10_r1 h3.1.1 (by omega), Option.bind_some, (h3.1.2.2.2 i hip).2.2.2.1, s10_g22 h3.1.1, Option.bind_some, f22', e7', Option.bind_some, e9, Option.bind_some]
        exact ⟨_, _, rfl, h8, Bk_trans b2 (Bk_trans (Bk_MR m3) b8), by rw [t8, m6.2.2.2.2 0 (by simp)]; exact t3, fun _ => rfl⟩
      · rw [if_neg c] at hnm0
        rw [if_neg c]
        obtain ⟨S3, e4, h3, m3⟩ := hnm0
        rw [e4, Option.bind_some]
        exact rC_fail (Bk_trans b2 (Bk_MR m3)) h3 2 0 (by decide)
    · rw [e, itp4 (fun z => by rw [e3] at z; cases z.2)]
      exact rC_fail b2 h2 1 0 (by decide)
end ADD
