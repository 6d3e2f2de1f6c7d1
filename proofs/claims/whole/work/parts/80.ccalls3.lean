/-! the class's calls: changes of links -/
section CCC
variable {S : pS} {R : Nat → Option Nat} {c1 c2 : Nat} {T : Tr} {A : As} {nm : Int32 → String}
/-- the chain is kept -/
theorem c_keepCh (h : CSr S A R c1 c2) (code : Int32) (n : Nat) (r : Int32) : ∃ S', F_X0_keep S 64 code (nI n) r = some S' ∧ CSr S' (aSetCh A (if code = 30 ∨ code = 60 then [code, 100 + nI n, r] else [code, r])) R c1 c2 ∧ Fm S S' := by
  have main : ∃ S', F_X0_keep S 64 code (nI n) r = some S' ∧ S'.1 = S.1 ∧ (∀ q, q ≠ 64 → q ≠ 65 → S'.2 q = S.2 q) ∧ CN S' (if code = 30 ∨ code = 60 then [code, 100 + nI n, r] else [code, r]) := by
    obtain ⟨k0, -, -⟩ := h.2.2.2.2.2.2.1
    unfold F_X0_keep
    have e1 : oSI S 65 .int (0 : Int32) code = some (wI S 65 0 code) := s0_w0 k0 (i := 0) (by decide) code
    have g1 : oGA S 64 0 0 = some 65 := s0_g0 k0
    rw [s0_oF k0, g1, Option.bind_some, e1, Option.bind_some]
    have k1 := sh_wI k0 65 0 code
    have v1 : cI ((wI S 65 0 code).2 65) = pu (cI (S.2 65)) 0 code := s0_v0 k0 0 code
    have o1 : ∀ q, q ≠ 65 → (wI S 65 0 code).2 q = S.2 q := fun q hq => wI_ne _ _ _ hq
    have n1 : (wI S 65 0 code).1 = S.1 := rfl
    generalize wI S 65 0 code = S1 at *
    rw [s0_p1 k1, Option.bind_some]
    have k2 := s0_k1 k1 k1 1
    have v2 := s0_v1 k1 1
    have o2 : ∀ q, q ≠ 64 → (wF S1 64 1 (.int 1)).2 q = S1.2 q := fun q hq => wF_ne _ _ _ hq
    have n2 : (wF S1 64 1 (.int 1)).1 = S.1 := n1
    generalize wF S1 64 1 (.int 1) = S2 at *
    -- the reason, at the place i
    have last : ∀ (S5 : pS) (i : Nat), i < 3 → Sh S5 64 sp0 → fI (S5.2 64) 1 = nI i → ∃ S', F_X0_keep_47 S5 64 r = some S' ∧ S'.1 = S5.1 ∧ (∀ q, q ≠ 64 → q ≠ 65 → S'.2 q = S5.2 q) ∧ Sh S' 64 sp0 ∧ fI (S'.2 64) 1 = nI (i + 1) ∧ cI (S'.2 65) = pu (cI (S5.2 65)) i r := by
      intro S5 i hi k5 v5
      unfold F_X0_keep_47
      have g5 : oGA S5 64 0 0 = some 65 := s0_g0 k5
      have e5 : oSI S5 65 .int (nI i) r = some (wI S5 65 i r) := s0_w0 k5 hi r
      have k6 := sh_wI k5 65 i r
      rw [g5, Option.bind_some, s0_g1 k5, Option.bind_some, v5, e5, Option.bind_some, s0_g1 k6, Option.bind_some, wI_ne _ _ _ (by decide), v5, nI_1, s0_p1 k6, Option.bind_some]
      refine ⟨_, rfl, rfl, fun q q1 q2 => by rw [wF_ne _ _ _ q1, wI_ne _ _ _ q2], s0_k1 k6 k6 _, s0_v1 k6 _, ?_⟩
      rw [wF_ne _ _ _ (by decide)]
      exact s0_v0 k5 i r
    have two : ∀ (S5 : pS), Sh S5 64 sp0 → fI (S5.2 64) 1 = nI 1 → cI (S5.2 65) 0 = code → S5.1 = S.1 → (∀ q, q ≠ 64 → q ≠ 65 → S5.2 q = S.2 q) → ∃ S', F_X0_keep_24 S5 64 (nI n) r = some S' ∧ S'.1 = S.1 ∧ (∀ q, q ≠ 64 → q ≠ 65 → S'.2 q = S.2 q) ∧ CN S' [code, 100 + nI n, r] := by
      intro S5 k5 v5 c5 n5 o5
      unfold F_X0_keep_24
      have g5 : oGA S5 64 0 0 = some 65 := s0_g0 k5
      have e5 : oSI S5 65 .int (nI 1) ((100 : Int32) + nI n) = some (wI S5 65 1 ((100 : Int32) + nI n)) := s0_w0 k5 (by decide) _
      have k6 := sh_wI k5 65 1 ((100 : Int32) + nI n)
      rw [g5, Option.bind_some, s0_g1 k5, Option.bind_some, v5, e5, Option.bind_some, s0_g1 k6, Option.bind_some, wI_ne _ _ _ (by decide), v5, nI_1, s0_p1 k6, Option.bind_some]
      obtain ⟨S', e7, n7, o7, k7, v7, c7⟩ := last _ 2 (by decide) (s0_k1 k6 k6 (nI 2)) (s0_v1 k6 (nI 2))
      refine ⟨S', e7, n7.trans n5, fun q q1 q2 => by rw [o7 q q1 q2, wF_ne _ _ _ q1, wI_ne _ _ _ q2]; exact o5 q q1 q2, k7, v7, fun k x hk => ?_⟩
      have c6 : cI ((wI S5 65 1 ((100 : Int32) + nI n)).2 65) = pu (cI (S5.2 65)) 1 ((100 : Int32) + nI n) := s0_v0 k5 1 _
      rw [c7, wF_ne _ _ _ (by decide), c6]
      match k, hk with
      | 0, hk => cases hk; rw [pu_ne _ _ _ (by decide), pu_ne _ _ _ (by decide)]; exact c5
      | 1, hk => cases hk; rw [pu_ne _ _ _ (by decide), pu_at]
      | 2, hk => cases hk; rw [pu_at]
    have c2' : cI (S2.2 65) 0 = code := by rw [o2 65 (by decide), v1, pu_at]
    have o02 : ∀ q, q ≠ 64 → q ≠ 65 → S2.2 q = S.2 q := fun q q1 q2 => (o2 q q1).trans (o1 q q2)
    by_cases c : code = 30
    · rw [if_pos c, if_pos (Or.inl c)]
      exact two S2 k2 v2 c2' n2 o02
    · rw [if_neg c]
      by_cases c' : code = 60
      · rw [if_neg (fun z => z c'), if_pos (Or.inr c')]
        exact two S2 k2 v2 c2' n2 o02
      · rw [if_pos c', if_neg (fun z => z.elim c c')]
        obtain ⟨S', e7, n7, o7, k7, v7, c7⟩ := last S2 1 (by decide) k2 v2
        refine ⟨S', e7, n7.trans n2, fun q q1 q2 => (o7 q q1 q2).trans (o02 q q1 q2), k7, v7, fun k x hk => ?_⟩
        rw [c7]
        match k, hk with
        | 0, hk => cases hk; rw [pu_ne _ _ _ (by decide)]; exact c2'
        | 1, hk => cases hk; rw [pu_at]
  obtain ⟨S', e, n', o, cn'⟩ := main
  obtain ⟨x, ts, ho, hh, cd, xt, cn, sc, th, sk, cc, hl⟩ := h
  have tr : ∀ i a q, i < 11 → R i = some a → a ≤ q → q < a + 7 → S'.2 q = S.2 q := fun i a q hi ha q1 q2 => by
    have := (ts.1 i a hi ha).1
    exact o q (by omega) (by omega)
  refine ⟨S', e, ⟨XO_fr x (by omega) (o 0 (by decide) (by decide)), TS_fr ts (by omega) tr, HO_fr ho (by omega) (fun q q1 q2 => o q (by omega) (by omega)), HS_fr hh (by omega) (fun q q1 q2 => o q (by omega) (by omega)), CD_fr cd (by omega) (fun q q1 q2 => o q (by omega) (by omega)), XT_fr xt (by omega) (fun q q1 q2 => o q (by omega) (by omega)), cn', SC_fr sc (by omega) (by omega) (fun q hq => o q (by omega) (by omega)), ⟨fun t ht => TR_fr (th.1 t ht) (by omega) (fun q q1 q2 => tr 0 t q (by omega) ht q1 q2), ?_, fun k U hk => ?_⟩, SK_fr sk (by omega) (fun q q1 q2 => o q (by omega) (by omega)), cc, hl⟩, by omega, fun q q1 q2 => o q (by omega) (by omega)⟩
  · have th2 := th.2.1
    show match aSv A with
      | none => R 2 = none
      | some U => ∃ b, R 2 = some b ∧ TR S' b U
    cases es : aSv A with
    | none => rw [es] at th2; exact th2
    | some U =>
      rw [es] at th2
      obtain ⟨b, b1, b2⟩ := th2
      exact ⟨b, b1, TR_fr b2 (by omega) (fun q q1 q2 => tr 2 b q (by omega) b1 q1 q2)⟩
  · obtain ⟨b, b1, b2⟩ := th.2.2 k U hk
    have hk2 := (List.getElem?_eq_some_iff.mp hk).1
    have : (aHi A).length ≤ 8 := hl
    have hk3 : k < (aHi A).length := hk2
    exact ⟨b, b1, TR_fr b2 (by omega) (fun q q1 q2 => tr (3 + k) b q (by omega) b1 q1 q2)⟩
theorem c_clone (h : CSr S A R c1 c2) (hA : aOk A) (x p i : Int32) : cC S (eN3 nIOO nUOE) (F_X9_clone S 0 x p i) (stClone A x p i) := by
  unfold F_X9_clone stClone
  have hT := hA.1.1
  rw [x_oF h.1, c_needNamed h, Option.bind_some]
  by_cases c0 : x = 0
  · rw [if_neg (fun z => z.1 c0), if_pos c0]
    simp only [Sum.elim_inr]
    exact cC_x (Fm_refl _) (cs_of h) (by decide) rfl
  · rw [if_neg (c := x = 0) c0]
    rcases itN_c hT x with ⟨c, hc, rfl, hcp, e, e3⟩ | ⟨e, e3⟩
    · rw [e, if_pos ⟨c0, e3⟩]
      simp only [Sum.elim_inl]
      have hc0 : c ≠ 0 := fun z => c0 (by rw [z]; rfl)
      rw [c_needItem h, Option.bind_some]
      rcases itN_c hT p with ⟨q, hq, rfl, hqp, e4, e5⟩ | ⟨e4, e5⟩
      · rw [e4, e5, if_pos rfl]
        simp only [Sum.elim_inl]
        obtain ⟨t, dd, S1, ht, hd, g0, g1, e1, h1, f1, t1, g1'⟩ := c_copyD h hA
        have hTt := cs_tr h ht
        have h12 := (hT.2.2.2.1 q hqp).1
        rw [g0, Option.bind_some, c_count hTt hq hqp, Option.bind_some, c_needGap h _ (by omega), Option.bind_some]
        rcases ixN_c i (n := (tKids (aT A) q).length + 1) (by omega) with ⟨k, hk, rfl, ek⟩ | ⟨ek, -⟩
        · rw [ek, if_pos (show (some k).isSome = true from rfl)]
          simp only [Sum.elim_inl]
          rw [(x_gs h.1).1, Option.bind_some, g0, Option.bind_some, c_reason (cs_sk h) hTt hT hqp hcp, Option.bind_some]
          by_cases r0 : reaC (aT A) c q = 0
          · rw [if_pos r0, if_pos r0, g1, Option.bind_some, Option.bind_some, e1, Option.bind_some, g1', Option.bind_some]
            obtain ⟨a1, a2, a3, a4⟩ := reaC_0 hT hqp r0
            have hkl : k ≤ (tKids (aT A) q).length := by omega
            have hok := put_ok hT hqp hcp hc0 hkl a1 a2 a3
            obtain ⟨S2, e2, t2, b2⟩ := c_insert (c := c) t1 hT hqp hkl a1
            obtain ⟨h2, f2⟩ := c_draft h1 hd b2 t2.1
            obtain ⟨S3, e6, h3, f3⟩ := c_adopt h2 hA hd t2 hok
            obtain ⟨R3, d1, d2, h3'⟩ := h3
            rw [e2, Option.bind_some, e6, Option.bind_some, (x_gs h3'.1).1, Option.bind_some, c_placesOf (cs_sk h3') hc, Option.bind_some]
            exact cC_ok (Fm_trans f1 (Fm_trans f2 f3)) ⟨_, _, _, h3'⟩
          · rw [if_neg r0, if_neg r0, (x_gs h.1).2.2.2.2.2.2.2.2.2.1, Option.bind_some]
            obtain ⟨S2, e2, h2, f2⟩ := c_keepCh h 20 0 (reaC (aT A) c q)
            have e2' : F_X0_keep S 64 (20 : Int32) (0 : Int32) (reaC (aT A) c q) = some S2 := e2
            rw [e2', Option.bind_some]
            rw [if_neg (by decide)] at h2
            exact cC_x f2 (cs_of h2) (by decide) rfl
        · rw [ek, if_neg (show ¬ (none : Option Nat).isSome = true by decide)]
          simp only [Sum.elim_inr]
          exact cC_x (Fm_refl _) (cs_of h) (by decide) rfl
      · rw [e4, e5, if_neg (by decide)]
        simp only [Sum.elim_inr]
        exact cC_x (Fm_refl _) (cs_of h) (by decide) rfl
    · rw [e, if_neg (fun z => by rw [e3] at z; cases z.2)]
      simp only [Sum.elim_inr]
      exact cC_x (Fm_refl _) (cs_of h) (by decide) rfl
/-- the draft is measured by the trial -/
theorem c_trial (h : CSr S A R c1 c2) {d : Nat} {U : Tr} (hd : R 1 = some d) (hU : TR S d U) (hok : tOk U) : ∃ S1, F_X6_measure S 23 d = some S1 ∧ CSr S1 A R c1 c2 ∧ Fm S S1 ∧ TR S1 d U ∧ SK S1 23 U ∧ S1.2 67 = S.2 67 ∧ S1.2 66 = S.2 66 := by
  have hp := (h.2.1.1 1 d (by omega) hd).1
  have hc : (c1 = 35 ∧ c2 = 41) ∨ (c1 = 41 ∧ c2 = 35) := h.2.2.2.2.2.2.2.2.2.2.1
  have hs := h.2.2.2.2.2.2.2.1
  obtain ⟨S1, e, m1, k1⟩ := c_measure hs.1 hU (by omega) hok
  have fr : ∀ q, ¬ (23 ≤ q ∧ q < 31) → S1.2 q = S.2 q := fun q hq => m1.2.2.1 q (by omega)
  have n1 : S1.1 = S.1 := m1.2.1
  have hU1 := MS_TR m1 (by omega) hU
  have h67 : rawA S1 67 .int 12 := rawA_fr hs.2.2.2.2.2 (by omega) (fr 67 (by omega))
  have h66 : rawA S1 66 .char 10 := rawA_fr hs.2.2.2.2.1 (by omega) (fr 66 (by omega))
  refine ⟨S1, e, CSr_fr h (by omega) ⟨k1.1, sh_fr hs.2.1 (by omega) (fun q q1 q2 => fr q (by have : sp1.length = 6 := rfl; omega)), sh_fr hs.2.2.1 (by omega) (fun q q1 q2 => fr q (by omega)), sh_fr hs.2.2.2.1 (by omega) (fun q q1 q2 => fr q (by omega)), h66, h67⟩ (fun d' hd' => by rw [hd] at hd'; cases hd'; exact hU1.1) (fun q q1 q2 => fr q (fun z => q2 (Or.inl z))), ⟨by omega, fun q q1 q2 => fr q (by omega)⟩, hU1, k1, fr 67 (by omega), fr 66 (by omega)⟩
theorem c_keepOnly {a : Nat} (h : TR S a T) (hT : tOk T) : ∃ S', F_X8_keepOnly S a (famT T 0) = some (nI (cntB fun i => tPres T i && !lb (famT T 0) i), S') ∧ TR S' a (tKeep T (lb (famT T 0))) ∧ Bk S S' a 7 := by
  unfold F_X8_keepOnly
  obtain ⟨t1, t2, t3, t4⟩ := h
  have hb : F_J13_bitCount_95d88 (wF S a 6 (.long (fJ (S.2 a) 6 &&& famT T 0))) (fJ (S.2 a) 6 &&& (famT T 0 ^^^ (-1 : Int64))) = some (nI (cntB fun i => tPres T i && !lb (famT T 0) i)) := by
    rw [bitCount_eq _ _ (fun i h1 h2 => ?_)]
    · congr 2
      unfold cntB
      congr 1
      refine List.filter_congr (fun i hi => ?_)
      have := List.mem_range.mp hi
      rw [lb_and, lb_not _ (by omega), t3 i (by omega)]
    · rw [lb_and, t3 i h2]
      cases e : tPres T i
      · rfl
      · have := tOk_lt hT e
        omega
  rw [s8_oF t1, s8_g6 t1, Option.bind_some, Option.bind_some, s8_p6 t1, Option.bind_some, hb, Option.bind_some]
  refine ⟨_, rfl, ⟨s8_k6 t1 t1 _, ?_, fun i hi => ?_, fun i hi => ?_⟩, rfl, fun q hq => wF_ne _ _ _ (by omega)⟩
  · rw [fI_wF_ne _ _ _ (by decide)]; exact t2
  · rw [s8_v6 t1, lb_and, t3 i hi]; rfl
  · have hw := t4 i ((keep_pres _ _ _).mp hi).1
    rw [fJ_wF_ne _ _ _ (by decide), fJ_wF_ne _ _ _ (by decide), wF_ne _ _ _ (show a + 5 ≠ a by omega), wF_ne _ _ _ (show a + 6 ≠ a by omega), wF_ne _ _ _ (show a + 1 ≠ a by omega), wF_ne _ _ _ (show a + 2 ≠ a by omega), wF_ne _ _ _ (show a + 3 ≠ a by omega), wF_ne _ _ _ (show a + 4 ≠ a by omega)]
    exact hw
theorem c_detach (h : CSr S A R c1 c2) (hA : aOk A) (p i : Int32) : cC S (eN2 nIOO) (F_X9_detach S 0 p i) (stDetach A p i) := by
  unfold F_X9_detach stDetach
  have hT := hA.1.1
  rw [x_oF h.1, c_needItem h, Option.bind_some]
  rcases itN_c hT p with ⟨q, hq, rfl, hqp, e, e3⟩ | ⟨e, e3⟩
  · rw [e, e3, if_pos rfl]
    simp only [Sum.elim_inl]
    obtain ⟨t, dd, S1, ht, hd, g0, g1, e1, h1, f1, t1, g1'⟩ := c_copyD h hA
    have hTt := cs_tr h ht
    have h12 := (hT.2.2.2.1 q hqp).1
    rw [g0, Option.bind_some, c_count hTt hq hqp, Option.bind_some, c_needIndex h _ (by omega), Option.bind_some]
    rcases ixN_c i (n := (tKids (aT A) q).length) (by omega) with ⟨k, hk, rfl, ek⟩ | ⟨ek, -⟩
    · rw [ek, if_pos (show (some k).isSome = true from rfl)]
      simp only [Sum.elim_inl]
      have hok := pull_ok hT q k
      obtain ⟨S2, e2, t2, b2⟩ := c_remove t1 hT hqp hk
      obtain ⟨h2, f2⟩ := c_draft h1 hd b2 t2.1
      obtain ⟨S3, e4, h3, f3, t3, k3, -, -⟩ := c_trial h2 hd t2 hok
      have e0 : F_X6_familyOf S3 23 (0 : Int32) = some (famT (tPull (aT A) q k) 0) := c_familyOf k3 (by decide) hok.1
      obtain ⟨S4, e5, t4, b4⟩ := c_keepOnly t3 hok
      obtain ⟨h4, f4⟩ := c_draft h3 hd b4 t4.1
      obtain ⟨S5, e6, h5, f5⟩ := c_adopt h4 hA hd t4 (keep_ok hok)
      rw [g1, Option.bind_some, g0, Option.bind_some, e1, Option.bind_some, g1', Option.bind_some, e2, Option.bind_some, (x_gs h2.1).2.1, Option.bind_some, x_g1 h2.1 hd, Option.bind_some, e4, Option.bind_some, x_g1 h3.1 hd, Option.bind_some, (x_gs h3.1).2.1, Option.bind_some, e0, Option.bind_some, e5, Option.bind_some, e6, Option.bind_some]
      exact cC_ok (Fm_trans f1 (Fm_trans f2 (Fm_trans f3 (Fm_trans f4 f5)))) h5
    · rw [ek, if_neg (show ¬ (none : Option Nat).isSome = true by decide)]
      simp only [Sum.elim_inr]
      exact cC_x (Fm_refl _) (cs_of h) (by decide) rfl
  · rw [e, e3, if_neg (by decide)]
    simp only [Sum.elim_inr]
    exact cC_x (Fm_refl _) (cs_of h) (by decide) rfl
end CCC
