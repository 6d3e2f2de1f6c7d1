/-! the class: snapshot, clear, hoists -/
def cP (S : pS) (o : Option (Int32 × pS)) (r : Rs) : Prop := ∃ S', Fm S S' ∧ CS S' r.1 ∧ o = some (r.2.2, S')
section CSN
variable {S S' : pS} {R : Nat → Option Nat} {c1 c2 : Nat} {T U : Tr} {A : As}
/-- pieces beside the trees are new -/
theorem CSr_re {H : List Nat} {tx ch : List Int32} {er : Option Nat} {L : List Cnd} (h : CSr S A R c1 c2) (hn : S'.1 = S.1) (o : ∀ q, ¬ (33 ≤ q ∧ q < 35) → ¬ (53 ≤ q ∧ q < 55) → ¬ (c1 ≤ q ∧ q < c1 + 6) → ¬ (64 ≤ q ∧ q < 66) → q ≠ 0 → S'.2 q = S.2 q) (x' : XO S' R c1 c2 (erI er)) (hh' : HS S' H) (cd' : CD S' c1 L) (xt' : XT S' tx) (cn' : CN S' ch) : CSr S' (aT A, aSv A, aHi A, H, tx, er, ch, L) R c1 c2 ∧ Fm S S' := by
  obtain ⟨x, ts, ho, hh, cd, xt, cn, sc, th, sk, cc, hl⟩ := h
  have h111 := x.1
  have tr : ∀ i a q, i < 11 → R i = some a → a ≤ q → q < a + 7 → S'.2 q = S.2 q := fun i a q hi ha q1 q2 => by
    have := (ts.1 i a hi ha).1
    exact o q (by omega) (by omega) (by omega) (by omega) (by omega)
  refine ⟨⟨x', TS_fr ts (by omega) tr, HO_fr ho (by omega) (fun q q1 q2 => o q (by omega) (by omega) (by omega) (by omega) (by omega)), hh', cd', xt', cn', SC_fr sc (by omega) (by omega) (fun q hq => o q (by omega) (by omega) (by omega) (by omega) (by omega)), ⟨fun t ht => TR_fr (th.1 t ht) (by omega) (fun q q1 q2 => tr 0 t q (by omega) ht q1 q2), sv_fr th rfl (fun b V h1 h2 => TR_fr h2 (by omega) (fun q q1 q2 => tr 2 b q (by omega) h1 q1 q2)), fun k V hk => ?_⟩, SK_fr sk (by omega) (fun q q1 q2 => o q (by omega) (by omega) (by omega) (by omega) (by omega)), cc, hl⟩, by omega, fun q q1 q2 => o q (by omega) (by omega) (by omega) (by omega) (by omega)⟩
  obtain ⟨b, b1, b2⟩ := th.2.2 k V hk
  have hk2 := (List.getElem?_eq_some_iff.mp hk).1
  have hk3 : k < (aHi A).length := hk2
  exact ⟨b, b1, TR_fr b2 (by omega) (fun q q1 q2 => tr (3 + k) b q (by omega) b1 q1 q2)⟩
theorem c_snapshot (h : CSr S A R c1 c2) (hA : aOk A) : cP S (F_X9_snapshot S 0) (stSnap A) := by
  unfold F_X9_snapshot stSnap
  have hT := hA.1.1
  -- with a tree for it
  have key : ∀ (S1 : pS) (R1 : Nat → Option Nat) (b : Nat), CSr S1 (aSetSv A (some tNew)) R1 c1 c2 ∨ (CSr S1 A R1 c1 c2) → Fm S S1 → R1 2 = some b → cP S (F_X9_snapshot_18 S1 0) (aSetSv A (some (aT A)), 0, nI (cntB (tPres (aT A)))) := by
    intro S1 R1 b hor hF hb
    have hx : XO S1 R1 c1 c2 (erI (aEr A)) ∧ TS S1 R1 ∧ HO S1 R1 (aHi A).length ∧ HS S1 (aHo A) ∧ CD S1 c1 (aCn A) ∧ XT S1 (aTx A) ∧ CN S1 (aCh A) ∧ SC S1 c2 ∧ (∀ t, R1 0 = some t → TR S1 t (aT A)) ∧ (∀ (k : Nat) V, (aHi A)[k]? = some V → ∃ a, R1 (3 + k) = some a ∧ TR S1 a V) ∧ SK S1 15 (aT A) ∧ ((c1 = 35 ∧ c2 = 41) ∨ (c1 = 41 ∧ c2 = 35)) ∧ (aHi A).length ≤ 8 := by
      rcases hor with ⟨x, ts, ho, hh, cd, xt, cn, sc, th, sk, cc, hl⟩ | ⟨x, ts, ho, hh, cd, xt, cn, sc, th, sk, cc, hl⟩
      · exact ⟨x, ts, ho, hh, cd, xt, cn, sc, th.1, th.2.2, sk, cc, hl⟩
      · exact ⟨x, ts, ho, hh, cd, xt, cn, sc, th.1, th.2.2, sk, cc, hl⟩
    obtain ⟨x, ts, ho, hh, cd, xt, cn, sc, th1, th3, sk, cc, hl⟩ := hx
    obtain ⟨t, ht⟩ : ∃ t, R1 0 = some t := by
      obtain ⟨-, f, -, ⟨t, ht, -⟩, -⟩ := x
      exact ⟨t, ht⟩
    have hsep := ts.2 2 0 b t (by omega) (by omega) (by omega) hb ht
    obtain ⟨S2, e2, t2, k2⟩ := c_copy (ts.1 2 b (by omega) hb).2 (th1 t ht) hT hsep
    have hbp := (ts.1 2 b (by omega) hb).1
    have n2 := k2.1
    have x2 := XO_fr x (S' := S2) (by omega) (k2.2 0 (by omega))
    unfold F_X9_snapshot_18
    rw [x_g2 x, Option.bind_some, x_g0 x ht, Option.bind_some, hb, Option.bind_some, e2, Option.bind_some, x_g2 x2, Option.bind_some, hb, Option.bind_some, c_countItems t2 hT, Option.bind_some]
    have tr : ∀ i a q, i < 11 → i ≠ 2 → R1 i = some a → a ≤ q → q < a + 7 → S2.2 q = S1.2 q := fun i a q hi h2 ha q1 q2 => by
      have := ts.2 i 2 a b hi (by omega) h2 ha hb
      exact k2.2 q (by omega)
    have h111 := x.1
    refine ⟨S2, Fm_trans hF ⟨by omega, fun q q1 q2 => k2.2 q (by omega)⟩, ⟨R1, c1, c2, x2, ⟨fun i a hi ha => ⟨(ts.1 i a hi ha).1, ?_⟩, ts.2⟩, HO_fr ho (by omega) (fun q q1 q2 => k2.2 q (by omega)), HS_fr hh (by omega) (fun q q1 q2 => k2.2 q (by omega)), CD_fr cd (by omega) (fun q q1 q2 => k2.2 q (by omega)), XT_fr xt (by omega) (fun q q1 q2 => k2.2 q (by omega)), CN_fr cn (by omega) (fun q q1 q2 => k2.2 q (by omega)), SC_fr sc (by omega) (by omega) (fun q hq => k2.2 q (by omega)), ⟨fun t' ht' => TR_fr (th1 t' ht') (by omega) (fun q q1 q2 => tr 0 t' q (by omega) (by omega) ht' q1 q2), ⟨b, hb, t2⟩, fun k V hk => ?_⟩, SK_fr sk (by omega) (fun q q1 q2 => k2.2 q (by omega)), cc, hl⟩, rfl⟩
    · by_cases c : i = 2
      · subst c
        rw [hb] at ha
        cases ha
        exact t2.1
      · exact sh_fr (ts.1 i a hi ha).2 (by omega) (fun q q1 q2 => tr i a q hi c ha q1 (by have : sp8.length = 7 := rfl; omega))
    · obtain ⟨a, a1, a2⟩ := th3 k V hk
      have hk2 := (List.getElem?_eq_some_iff.mp hk).1
      have hk3 : k < (aHi A).length := hk2
      exact ⟨a, a1, TR_fr a2 (by omega) (fun q q1 q2 => tr (3 + k) a q (by omega) (by omega) a1 q1 q2)⟩
  rw [x_oF h.1, x_g2 h.1, Option.bind_some]
  cases e2 : R 2 with
  | some b => exact key S R b (Or.inr h) (Fm_refl _) e2
  | none =>
    dsimp only
    obtain ⟨S1, e1, t1, n1, o1⟩ := newTree S
    obtain ⟨x, ts, ho, hh, cd, xt, cn, sc, th, sk, cc, hl⟩ := h
    have h111 := x.1
    have tr1 : ∀ i a q, i < 11 → R i = some a → a ≤ q → q < a + 7 → S1.2 q = S.2 q := fun i a q hi ha q1 q2 => o1 q (by have := TS_sep ts i a hi ha; omega)
    have ts1 := TS_fr ts (by omega) tr1
    have x1 := XO_fr x (S' := S1) (by omega) (o1 0 (by omega))
    obtain ⟨S2, e3, n3, o3, x3⟩ := x_p2 x1 S.1
    have x3' := x3 (pu R 2 (some S.1)) (pu_ne _ _ _ (by decide)) (pu_ne _ _ _ (by decide)) (pu_at _ _ _)
    have ts2 : TS S2 (pu R 2 (some S.1)) := by
      have := TS_new ts1 h111 t1.1 (fun i b hi hb => TS_sep ts i b hi hb) 2
      exact TS_fr this (by omega) (fun i a q hi ha q1 q2 => o3 q (by have := (this.1 i a hi ha).1; omega))
    have f2 : ∀ q, q < S.1 → q ≠ 0 → S2.2 q = S.2 q := fun q q1 q2 => (o3 q q2).trans (o1 q q1)
    have tr2 : ∀ i a q, i < 11 → R i = some a → a ≤ q → q < a + 7 → S2.2 q = S.2 q := fun i a q hi ha q1 q2 => f2 q (by have := TS_sep ts i a hi ha; omega) (by have := (ts.1 i a hi ha).1; omega)
    rw [e1, Option.bind_some, e3, Option.bind_some]
    refine key S2 (pu R 2 (some S.1)) S.1 (Or.inl ?_) ⟨by omega, fun q q1 q2 => f2 q (by omega) (by omega)⟩ (pu_at _ _ _)
    refine ⟨x3', ts2, ?_, HS_fr hh (by omega) (fun q q1 q2 => f2 q (by omega) (by omega)), CD_fr cd (by omega) (fun q q1 q2 => f2 q (by omega) (by omega)), XT_fr xt (by omega) (fun q q1 q2 => f2 q (by omega) (by omega)), CN_fr cn (by omega) (fun q q1 q2 => f2 q (by omega) (by omega)), SC_fr sc (by omega) (by omega) (fun q hq => f2 q (by omega) (by omega)), ⟨fun t ht => ?_, ⟨S.1, pu_at _ _ _, TR_fr t1 (by omega) (fun q q1 q2 => o3 q (by omega))⟩, fun k V hk => ?_⟩, SK_fr sk (by omega) (fun q q1 q2 => f2 q (by omega) (by omega)), cc, hl⟩
    · obtain ⟨w1, w2, q, w3, w4⟩ := HO_fr ho (S' := S2) (by omega) (fun q q1 q2 => f2 q (by omega) (by omega))
      exact ⟨w1, w2, q, w3, fun k hk => by rw [w4 k hk, pu_ne _ _ _ (by omega)]⟩
    · rw [pu_ne _ _ _ (by decide)] at ht
      exact TR_fr (th.1 t ht) (by omega) (fun q q1 q2 => tr2 0 t q (by omega) ht q1 q2)
    · obtain ⟨a, a1, a2⟩ := th.2.2 k V hk
      have hk2 := (List.getElem?_eq_some_iff.mp hk).1
      have hk3 : k < (aHi A).length := hk2
      exact ⟨a, by rw [pu_ne _ _ _ (by omega)]; exact a1, TR_fr a2 (by omega) (fun q q1 q2 => tr2 (3 + k) a q (by omega) a1 q1 q2)⟩
theorem c_hoist (h : CSr S A R c1 c2) (hA : aOk A) (x : Int32) : cC S (eN2 nISE) (F_X9_hoist S 0 x) (stHoist A x) := by
  unfold F_X9_hoist stHoist
  have hT := hA.1.1
  have hl := hA.2.2.2.2.1
  obtain ⟨k0, k1, k2⟩ := h.2.2.2.1
  have esz : ∀ {S1 : pS} {n : Nat} (_ : Sh S1 33 sp4) (_ : fI (S1.2 33) 1 = nI n), F_X4_size S1 33 = some (nI n) := by
    intro S1 n q1 q2
    unfold F_X4_size
    rw [s4_oF q1, s4_g1 q1, Option.bind_some, q2]
  rw [x_oF h.1, c_needItem h, Option.bind_some]
  rcases itN_c hT x with ⟨i, hi, rfl, hp, e, e3⟩ | ⟨e, e3⟩
  · rw [e, e3, if_pos rfl]
    simp only [Sum.elim_inl]
    rw [(x_gs h.1).2.2.2.1, Option.bind_some, esz k0 k1, Option.bind_some]
    by_cases c : (aHo A).length = 4
    · rw [if_neg (by rw [c]; decide), if_pos c]
      exact cC_x (Fm_refl _) (cs_of h) (by decide) rfl
    · have hlt : (aHo A).length < 4 := by omega
      rw [if_pos (show nI (aHo A).length < (4 : Int32) from nI_lt (b := 4) hlt (by decide)), if_neg c, Option.bind_some]
      unfold F_X4_push
      have eg : oGA S 33 4 0 = some 34 := s4_g0 k0
      have ew : oSI S 34 .int (nI (aHo A).length) (nI i) = some (wI S 34 (aHo A).length (nI i)) := s4_w0 k0 (by omega) _
      have k3 := sh_wI k0 34 (aHo A).length (nI i)
      have v3 : cI ((wI S 34 (aHo A).length (nI i)).2 34) = pu (cI (S.2 34)) (aHo A).length (nI i) := s4_v0 k0 _ _
      have o3 : ∀ q, q ≠ 34 → (wI S 34 (aHo A).length (nI i)).2 q = S.2 q := fun q hq => wI_ne _ _ _ hq
      have n3 : (wI S 34 (aHo A).length (nI i)).1 = S.1 := rfl
      rw [s4_oF k0, s4_g1 k0, Option.bind_some, k1, if_neg (show ¬ (4 : Int32) ≤ nI (aHo A).length from nI_ge (b := 4) hlt (by decide)), eg, Option.bind_some, Option.bind_some, ew, Option.bind_some]
      generalize wI S 34 (aHo A).length (nI i) = S3 at *
      rw [s4_g1 k3, Option.bind_some, o3 33 (by decide), k1, nI_1, s4_p1 k3, Option.bind_some]
      have k4 := s4_k1 k3 k3 (nI ((aHo A).length + 1))
      have v4 := s4_v1 k3 (nI ((aHo A).length + 1))
      have o4 : ∀ q, q ≠ 33 → (wF S3 33 1 (.int (nI ((aHo A).length + 1)))).2 q = S3.2 q := fun q hq => wF_ne _ _ _ hq
      have n4 : (wF S3 33 1 (.int (nI ((aHo A).length + 1)))).1 = S.1 := n3
      generalize wF S3 33 1 (.int (nI ((aHo A).length + 1))) = S4 at *
      have f4 : ∀ q, q ≠ 33 → q ≠ 34 → S4.2 q = S.2 q := fun q q1 q2 => (o4 q q1).trans (o3 q q2)
      have hcc := h.2.2.2.2.2.2.2.2.2.2.1
      obtain ⟨h4, F4⟩ := CSr_re (S' := S4) (H := aHo A ++ [i]) (tx := aTx A) (er := aEr A) (ch := aCh A) (L := aCn A) h n4 (fun q q1 q2 q3 q4 q5 => f4 q (by omega) (by omega)) (XO_fr h.1 (by omega) (f4 0 (by decide) (by decide)))
        ⟨k4, by rw [v4, List.length_append]; rfl, fun k j hk => by
          rw [o4 34 (by decide), v3]
          by_cases d : k = (aHo A).length
          · subst d
            rw [List.getElem?_append_right (Nat.le_refl _), Nat.sub_self] at hk
            have : i = j := by simpa using hk
            rw [pu_at, this]
          · rw [pu_ne _ _ _ d]
            apply k2
            rw [List.getElem?_append] at hk
            by_cases l : k < (aHo A).length
            · rw [if_pos l] at hk; exact hk
            · rw [if_neg l] at hk
              have := (List.getElem?_eq_some_iff.mp hk).1
              rw [List.length_singleton] at this
              omega⟩ (CD_fr h.2.2.2.2.1 (by omega) (fun q q1 q2 => f4 q (by omega) (by omega))) (XT_fr h.2.2.2.2.2.1 (by omega) (fun q q1 q2 => f4 q (by omega) (by omega))) (CN_fr h.2.2.2.2.2.2.1 (by omega) (fun q q1 q2 => f4 q (by omega) (by omega)))
      rw [Option.bind_some, (x_gs h4.1).2.2.2.1, Option.bind_some, esz k4 v4, Option.bind_some]
      exact cC_ok F4 ⟨_, _, _, h4⟩
  · rw [e, e3, if_neg (by decide)]
    simp only [Sum.elim_inr]
    exact cC_x (Fm_refl _) (cs_of h) (by decide) rfl
theorem c_topH {H : List Nat} (h : HS S H) (hl : H.length ≤ 4) : F_X4_top S 33 = some (nI (topH H)) := by
  unfold F_X4_top topH
  obtain ⟨k0, k1, k2⟩ := h
  rw [s4_oF k0, s4_g1 k0, Option.bind_some, k1]
  by_cases c : H = []
  · rw [if_neg (fun z => z (by rw [c]; rfl)), c]; rfl
  · have hp := List.length_pos_iff.mpr c
    obtain ⟨u, hu⟩ : ∃ u, H.length = u + 1 := ⟨H.length - 1, by omega⟩
    have eg : oGA S 33 4 0 = some 34 := s4_g0 k0
    have er : oAI S 34 .int (nI u) = some (cI (S.2 34) u) := s4_r0 k0 (by omega)
    have hu2 : u < H.length := by omega
    rw [if_pos (fun z => c ((nI_len0 _ (by omega)).mp z)), eg, Option.bind_some, Option.bind_some, hu, nI_pred, er, Option.bind_some, List.getLast?_eq_getElem?, hu, k2 u _ (List.getElem?_eq_getElem hu2), Nat.add_sub_cancel, List.getElem?_eq_getElem hu2]
    rfl
theorem c_unhoist (h : CSr S A R c1 c2) (hA : aOk A) : cC S (fun _ => nISE) (F_X9_unhoist S 0) (stUnhoist A) := by
  unfold F_X9_unhoist stUnhoist
  have hl := hA.2.2.2.2.1
  obtain ⟨k0, k1, k2⟩ := h.2.2.2.1
  have esz : F_X4_size S 33 = some (nI (aHo A).length) := by
    unfold F_X4_size
    rw [s4_oF k0, s4_g1 k0, Option.bind_some, k1]
  rw [x_oF h.1, (x_gs h.1).2.2.2.1, Option.bind_some, esz, Option.bind_some]
  by_cases c : aHo A = []
  · rw [if_neg (fun z => z (by rw [c]; rfl)), if_pos c]
    exact cC_x (Fm_refl _) (cs_of h) (by decide) rfl
  · have hp := List.length_pos_iff.mpr c
    obtain ⟨u, hu⟩ : ∃ u, (aHo A).length = u + 1 := ⟨(aHo A).length - 1, by omega⟩
    rw [if_pos (fun z => c ((nI_len0 _ (by omega)).mp z)), if_neg c, Option.bind_some]
    unfold F_X4_pop
    rw [s4_oF k0, s4_g1 k0, Option.bind_some, k1, hu, if_neg (nI_nle (by omega) (by omega)), Option.bind_some, nI_pred, s4_p1 k0, Option.bind_some]
    have k4 := s4_k1 k0 k0 (nI u)
    have v4 := s4_v1 k0 (nI u)
    have o4 : ∀ q, q ≠ 33 → (wF S 33 1 (.int (nI u))).2 q = S.2 q := fun q hq => wF_ne _ _ _ hq
    have n4 : (wF S 33 1 (.int (nI u))).1 = S.1 := rfl
    generalize wF S 33 1 (.int (nI u)) = S4 at *
    have hcc := h.2.2.2.2.2.2.2.2.2.2.1
    have hdl : (aHo A).dropLast.length = u := by rw [List.length_dropLast, hu]; rfl
    have hs4 : HS S4 (aHo A).dropLast := ⟨k4, by rw [v4, hdl], fun k j hk => by
      have hk2 := (List.getElem?_eq_some_iff.mp hk).1
      rw [hdl] at hk2
      rw [List.getElem?_dropLast, if_pos (by omega)] at hk
      rw [o4 34 (by decide)]
      exact k2 k j hk⟩
    obtain ⟨h4, F4⟩ := CSr_re (S' := S4) (H := (aHo A).dropLast) (tx := aTx A) (er := aEr A) (ch := aCh A) (L := aCn A) h n4 (fun q q1 q2 q3 q4 q5 => o4 q (by omega)) (XO_fr h.1 (by omega) (o4 0 (by decide))) hs4 (CD_fr h.2.2.2.2.1 (by omega) (fun q q1 q2 => o4 q (by omega))) (XT_fr h.2.2.2.2.2.1 (by omega) (fun q q1 q2 => o4 q (by omega))) (CN_fr h.2.2.2.2.2.2.1 (by omega) (fun q q1 q2 => o4 q (by omega)))
    rw [Option.bind_some, (x_gs h4.1).2.2.2.1, Option.bind_some, c_topH hs4 (by omega), Option.bind_some]
    exact cC_ok F4 ⟨_, _, _, h4⟩
end CSN
