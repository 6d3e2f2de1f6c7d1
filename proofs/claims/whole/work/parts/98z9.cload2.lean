/-! load: the class, the call -/
section CL2
variable {S : pS} {R : Nat → Option Nat} {c1 c2 : Nat} {A : As} {L : List Ent} {I : List Nat} {T U : Tr} {item k : Nat}
def stLoad (A : As) (x : Int32) : Rs := match itN (aT A) x with
  | none => (A, 1, 0)
  | some i => if (rdO (aTx A) 40 0 []).1 = true then (match lodE (rdO (aTx A) 40 0 []).2.2 i (aT A) (rdO (aTx A) 40 0 []).2.2.length with
      | .inl s => (aKeep (aSetTx A []) s.1, 0, nI (rdO (aTx A) 40 0 []).2.2.length)
      | .inr q => (aSetCh (aSetTx A []) [60, 100 + nI q.1, q.2], 3, 0)) else (aSetEr (aSetTx A []) (some (rdO (aTx A) 40 0 []).2.1), 2, 0)
theorem lodi0 (hA : aOk A) (hp : tPres (aT A) item = true) : LodI (aT A) [] item 0 := ⟨hA.1, rfl, (fun x hx => by cases hx), hp, hA.2.2.2.2.2.2.2.2.2.2.2.2.1⟩
theorem c_putStep (h : CSr S A R c1 c2) {d : Nat} (hd : R 1 = some d) (hT : TR S d T) (hE : EB S L I) (hL : ELo L) (hl : L.length ≤ 40) (hi : LodI T I item k) (hk : k < L.length) : match stepE L item T I k with
    | .inl s => ∃ S', F_X9_putEntries_2 0 (nI item) (nI k, S) = some (.inl (nI (k + 1), S')) ∧ CSr S' A R c1 c2 ∧ Fm S S' ∧ TR S' d s.1 ∧ EB S' L s.2
    | .inr q => ∃ S', F_X9_putEntries_2 0 (nI item) (nI k, S) = some (.inr (.inl (nI q.1, q.2, S'))) ∧ CSr S' A R c1 c2 ∧ Fm S S' := by
  obtain ⟨hg, hIl, hIp, hip, hn0⟩ := id hi
  have hok := hg.1
  obtain ⟨ek, eklv, eok⟩ := enL_ok hL hk
  have hqp := par_pres (L := L) hi
  have hs := h.2.2.2.2.2.2.2.1.2.2.2.1
  have h12 := (hok.2.2.2.1 _ hqp).1
  have esz : F_X2_size S 55 = some (nI L.length) := by
    unfold F_X2_size
    rw [s2_oF hs, s2_g8 hs, Option.bind_some, hE.2.1]
  have epar := c_parentFor (item := item) hs hE hL hl hk hIl
  obtain ⟨S1, e1, h1, f1, t1, k1, o1⟩ := c_trialF h hd hT hok
  have E1 := EB_fr hE (fun q a b => o1 q (by omega))
  have hs1 := h1.2.2.2.2.2.2.2.1.2.2.2.1
  have eC := c_isClone hs1 E1.1 hL hl ek
  unfold stepE
  generalize hq : parE L I k item = q at *
  have hq61 := tOk_lt hok hqp
  have pre : F_X9_putEntries_2 0 (nI item) (nI k, S) = if (if (enL L k).2.1 = none then (0 : Int32) else 1) = 0 then ((F_X6_reasonAgainstNew S1 23 d (nI q)).bind fun q23 => F_X9_putEntries_80 0 (nI item) S1 (nI k) (nI q) q23) else ((F_X2_itemToClone S1 55 (nI k)).bind fun q45 => (F_X6_reasonAgainst S1 23 d q45 (nI q)).bind fun q47 => F_X9_putEntries_80 0 (nI item) S1 (nI k) (nI q) q47) := by
    unfold F_X9_putEntries_2
    rw [(x_gs h.1).2.2.2.2.2.2.2.2.1, Option.bind_some, esz, Option.bind_some, if_neg (nI_ge hk (by omega)), Option.bind_some]
    dsimp only
    rw [epar, Option.bind_some, (x_gs h.1).2.1, Option.bind_some, x_g1 h.1 hd, Option.bind_some, e1, Option.bind_some, (x_gs h1.1).2.2.2.2.2.2.2.2.1, Option.bind_some, eC, Option.bind_some, (x_gs h1.1).2.1, Option.bind_some, x_g1 h1.1 hd, Option.bind_some, Option.bind_some, Option.bind_some, Option.bind_some]
  -- the put itself
  have fin : ∀ (T2 : Tr) (c : Nat) (S2 : pS), F_X2_itemFor S1 55 d (nI k) = some (nI c, S2) → CSr S2 A R c1 c2 → Fm S1 S2 → TR S2 d T2 → EB S2 L (I ++ [c]) → tOk T2 → tPres T2 q = true → tKids T2 q = tKids T q → (tKids T q).length < 12 → ∃ S', F_X9_putEntries_80 0 (nI item) S1 (nI k) (nI q) (0 : Int32) = some (.inl (nI (k + 1), S')) ∧ CSr S' A R c1 c2 ∧ Fm S S' ∧ TR S' d (tPut T2 q (tKids T q).length c) ∧ EB S' L (I ++ [c]) := by
    intro T2 c S2 e2 h2 f2 t2 E2 ok2 p2 k2 l2
    have hdp := (h2.2.1.1 1 d (by omega) hd).1
    obtain ⟨S3, e3, t3, b3⟩ := c_insert (c := c) (k := (tKids T q).length) t2 ok2 p2 (by rw [k2]; exact Nat.le_refl _) (by rw [k2]; exact l2)
    obtain ⟨h3, f3⟩ := c_draft h2 hd b3 t3.1
    unfold F_X9_putEntries_80
    rw [if_pos rfl, x_g1 h1.1 hd, Option.bind_some, Option.bind_some, c_count t1 hq61 hqp, Option.bind_some, (x_gs h1.1).2.2.2.2.2.2.2.2.1, Option.bind_some, Option.bind_some, e2, Option.bind_some]
    dsimp only
    rw [e3, Option.bind_some, nI_1]
    exact ⟨S3, rfl, h3, Fm_trans f1 (Fm_trans f2 f3), t3, EB_fr E2 (fun x a b => b3.2 x (by omega))⟩
  have bad : ∀ r : Int32, r ≠ 0 → F_X9_putEntries_80 0 (nI item) S1 (nI k) (nI q) r = some (.inr (.inl (nI k, r, S1))) := by
    intro r hr
    unfold F_X9_putEntries_80
    rw [if_neg hr]
  subst hIl
  cases es : (enL L I.length).2.1 with
  | none =>
    dsimp only
    rw [es, if_pos rfl, if_pos rfl, c_reasonNew k1 t1 hok hqp, Option.bind_some] at pre
    by_cases r0 : reaN T q = 0
    · rw [if_pos r0]
      rw [r0] at pre
      have hm : tMade T < 60 ∧ (tKids T q).length < 12 := by
        have h60 := hok.2.1
        unfold reaN at r0
        by_cases c : tMade T = 60 ∨ (tKids T q).length = 12
        · rw [if_pos c] at r0; exact absurd r0 (by decide)
        · omega
      have hnm : (enL L I.length).2.2.1.length ≤ 10 ∧ ∀ x, x ∈ (enL L I.length).2.2.1 → 97 ≤ x ∧ x ≤ 122 := ⟨eok.2.2.2.1, eok.2.2.2.2.1⟩
      obtain ⟨S2, e2, h2, f2, t2, E2⟩ := c_itemNew h1 hd t1 hok E1 hL hl hk es hm.1
      have hmk := mk_ok hok hm.1 hnm
      obtain ⟨S', a1, a2, a3, a4, a5⟩ := fin (tEnt T (enL L I.length)) (tMade T + 1) S2 e2 h2 f2 t2 E2 hmk (mk_pres hok (enL L I.length).2.2.1 hqp) (mk_kids hok (enL L I.length).2.2.1 hqp) hm.2
      exact ⟨S', pre.trans a1, a2, a3, a4, a5⟩
    · rw [if_neg r0]
      exact ⟨S1, pre.trans (bad _ r0), h1, f1⟩
  | some v =>
    dsimp only
    have hv := eok.2.1 v es
    have hcm := hIp _ (getD_mem (I := I) (j := v) hv)
    rw [es, if_neg (show ¬ (if (some v : Option Nat) = none then (0 : Int32) else 1) = 0 by simp), c_toClone hs1 E1 hL hl hk rfl es, Option.bind_some, c_reason k1 t1 hok hqp hcm.1, Option.bind_some] at pre
    by_cases r0 : reaC T (I.getD v 0) q = 0
    · rw [if_pos r0]
      rw [r0] at pre
      obtain ⟨b1, b2, b3, b4⟩ := reaC_0 hok hqp r0
      obtain ⟨S2, e2, h2, f2, t2, E2⟩ := c_itemOld h1 hd t1 E1 hL hl hk es
      obtain ⟨S', a1, a2, a3, a4, a5⟩ := fin T (I.getD v 0) S2 e2 h2 f2 t2 E2 hok hqp rfl b1
      exact ⟨S', pre.trans a1, a2, a3, a4, a5⟩
    · rw [if_neg r0]
      exact ⟨S1, pre.trans (bad _ r0), h1, f1⟩
theorem c_putEntries (h : CSr S A R c1 c2) {d : Nat} (hd : R 1 = some d) (hT : TR S d T) (hE : EB S L []) (hL : ELo L) (hl : L.length ≤ 40) (hi : LodI T [] item 0) : match lodE L item T L.length with
    | .inl s => ∃ S', F_X9_putEntries S 0 (nI item) = some (1, S') ∧ CSr S' A R c1 c2 ∧ Fm S S' ∧ TR S' d s.1 ∧ fI (S'.2 55) 8 = nI L.length ∧ tOk s.1
    | .inr q => ∃ S', F_X9_putEntries S 0 (nI item) = some (0, S') ∧ CSr S' (aSetCh A [60, 100 + nI q.1, q.2]) R c1 c2 ∧ Fm S S' := by
  obtain ⟨r, e, hr⟩ := iter_fu (F := F_X9_putEntries_2 0 (nI item)) (s := ((0 : Int32), S)) (fun k s => s.1 = nI k ∧ ∃ s0, lodE L item T k = .inl s0 ∧ CSr s.2 A R c1 c2 ∧ Fm S s.2 ∧ TR s.2 d s0.1 ∧ EB s.2 L s0.2)
    (P := fun r => match lodE L item T L.length with
      | .inl s => ∃ S', r = .inr S' ∧ CSr S' A R c1 c2 ∧ Fm S S' ∧ TR S' d s.1 ∧ fI (S'.2 55) 8 = nI L.length ∧ tOk s.1
      | .inr q => ∃ S', r = .inl (nI q.1, q.2, S') ∧ CSr S' A R c1 c2 ∧ Fm S S') L.length (by omega) ⟨rfl, _, rfl, h, Fm_refl _, hT, hE⟩
    (by
      rintro ⟨b, S1⟩ ⟨h1, s0, h2, h3, h4, h5, h6⟩
      dsimp only at h1 h3 h4 h5 h6
      subst h1
      have hs := h3.2.2.2.2.2.2.2.1.2.2.2.1
      have esz : F_X2_size S1 55 = some (nI L.length) := by
        unfold F_X2_size
        rw [s2_oF hs, s2_g8 hs, Option.bind_some, h6.2.1]
      have ex : F_X9_putEntries_2 0 (nI item) (nI L.length, S1) = some (.inr (.inr S1)) := by
        unfold F_X9_putEntries_2
        rw [(x_gs h3.1).2.2.2.2.2.2.2.2.1, Option.bind_some, esz, Option.bind_some, if_pos (Int32.le_refl _)]
      rw [ex]
      refine ⟨_, rfl, ?_⟩
      show match lodE L item T L.length with
        | .inl s => ∃ S', Sum.inr S1 = (Sum.inr S' : (Int32 × Int32 × pS) ⊕ pS) ∧ CSr S' A R c1 c2 ∧ Fm S S' ∧ TR S' d s.1 ∧ fI (S'.2 55) 8 = nI L.length ∧ tOk s.1
        | .inr q => ∃ S', Sum.inr S1 = (Sum.inl (nI q.1, q.2, S') : (Int32 × Int32 × pS) ⊕ pS) ∧ CSr S' A R c1 c2 ∧ Fm S S'
      rw [h2]
      exact ⟨S1, rfl, h3, h4, h5, h6.2.1, (lod_inv hL hi _ (Nat.le_refl _) s0 h2).1.1⟩)
    (by
      rintro k ⟨b, S1⟩ hk ⟨h1, s0, h2, h3, h4, h5, h6⟩
      dsimp only at h1 h3 h4 h5 h6
      subst h1
      have inv := lod_inv hL hi k (by omega) s0 h2
      have st := c_putStep h3 hd h5 h6 hL hl inv hk
      have es := lodE_s L item T k
      rw [h2] at es
      dsimp only at es
      cases er : stepE L item s0.1 s0.2 k with
      | inl s =>
        rw [er] at st es
        obtain ⟨S', a1, a2, a3, a4, a5⟩ := st
        rw [a1]
        exact ⟨_, rfl, rfl, s, es, a2, Fm_trans h4 a3, a4, a5⟩
      | inr q =>
        rw [er] at st es
        obtain ⟨S', a1, a2, a3⟩ := st
        have em := lodE_mono es (L.length - (k + 1))
        rw [show k + 1 + (L.length - (k + 1)) = L.length by omega] at em
        rw [a1]
        refine ⟨_, rfl, ?_⟩
        show match lodE L item T L.length with
          | .inl s => ∃ S2, Sum.inl (nI q.1, q.2, S') = (Sum.inr S2 : (Int32 × Int32 × pS) ⊕ pS) ∧ CSr S2 A R c1 c2 ∧ Fm S S2 ∧ TR S2 d s.1 ∧ fI (S2.2 55) 8 = nI L.length ∧ tOk s.1
          | .inr q' => ∃ S2, Sum.inl (nI q.1, q.2, S') = (Sum.inl (nI q'.1, q'.2, S2) : (Int32 × Int32 × pS) ⊕ pS) ∧ CSr S2 A R c1 c2 ∧ Fm S S2
        rw [em]
        exact ⟨S', rfl, a2, Fm_trans h4 a3⟩)
  unfold F_X9_putEntries
  rw [x_oF h.1, e, Option.bind_some]
  cases eb : lodE L item T L.length with
  | inl s =>
    rw [eb] at hr
    obtain ⟨S', rfl, q1, q2, q3, q4, q5⟩ := hr
    exact ⟨S', rfl, q1, q2, q3, q4, q5⟩
  | inr q =>
    rw [eb] at hr
    obtain ⟨S', rfl, q1, q2⟩ := hr
    obtain ⟨S3, e3, h3, f3⟩ := c_keepCh q1 60 q.1 q.2
    simp only [Sum.elim_inl]
    rw [(x_gs q1.1).2.2.2.2.2.2.2.2.2.1, Option.bind_some, e3, Option.bind_some]
    rw [if_pos (Or.inr rfl)] at h3
    exact ⟨S3, rfl, h3, Fm_trans q2 f3⟩
theorem rdO_ok0 (hA : aOk A) : (rdO (aTx A) 40 0 []).2.1 ≤ (aTx A).length ∧ ELo (rdO (aTx A) 40 0 []).2.2 ∧ (rdO (aTx A) 40 0 []).2.2.length ≤ 40 := by
  have := rdO_ok (txOk_of hA) 40 0 [] (Nat.zero_le _) (fun j e he => by simp at he)
  exact ⟨this.1, this.2.1, by have h := this.2.2; rw [List.length_nil] at h; omega⟩
theorem c_adoptF (h : CSr S A R c1 c2) (hA : aOk A) {d : Nat} (hd : R 1 = some d) (hdT : TR S d T) (hT : tOk T) : ∃ S', F_X9_adoptDraft S 0 = some S' ∧ CS S' (aKeep A T) ∧ Fm S S' ∧ ∀ q, 55 ≤ q → q < 64 → S'.2 q = S.2 q := by
  obtain ⟨S', e, hc, fc⟩ := c_adopt h hA hd hdT hT
  refine ⟨S', e, hc, fc, ?_⟩
  obtain ⟨S6, e6, f6⟩ : ∃ S6, F_X9_adoptDraft S 0 = some S6 ∧ ∀ q, 55 ≤ q → q < 64 → S6.2 q = S.2 q := by
    obtain ⟨t, ht⟩ := cs_t h
    obtain ⟨x, ts, ho, hh, cd, xt, cn, sc, th, sk, cc, hl⟩ := h
    have h111 := x.1
    have hfull : (aHi A).length = 8 → ∀ k, k < 8 → ∃ a, R (3 + k) = some a := fun h8 k hk => by
      have hk' : k < (aHi A).length := by omega
      obtain ⟨a, a1, -⟩ := th.2.2 k _ (List.getElem?_eq_getElem hk')
      exact ⟨a, a1⟩
    obtain ⟨a, S1, e1, n1, o1, ts1, ho1⟩ := c_push x ts hl ho hfull ht
    have x1 := XO_fr x n1 (o1 0 (by omega) (by omega))
    unfold F_X9_adoptDraft
    rw [x_oF x, (x_gs x).2.2.1, Option.bind_some, x_g0 x ht, Option.bind_some, e1, Option.bind_some]
    dsimp only
    rw [x_g1 x1 hd, Option.bind_some]
    obtain ⟨S2, e2, n2, o2, x2⟩ := x_p0 x1 d
    rw [e2, Option.bind_some]
    have x2' := x2 (pu R 0 (some d)) (pu_at _ _ _) (pu_ne _ _ _ (by decide)) (pu_ne _ _ _ (by decide))
    obtain ⟨S3, e3, n3, o3, x3⟩ := x_p1 x2' a
    rw [e3, Option.bind_some]
    have x3' := x3 (rolA R (aHi A).length a) (by rw [pu_at]; unfold rolA; rw [if_pos rfl]; exact hd) (by unfold rolA; rw [if_neg (by decide), if_pos rfl]) (by
      rw [pu_ne _ _ _ (by decide)]
      unfold rolA
      rw [if_neg (by decide), if_neg (by decide)]
      by_cases c : (aHi A).length = 8
      · rw [if_pos c, if_neg (by decide), if_neg (by decide)]
      · rw [if_neg c, if_neg (by omega)])
    have f13 : ∀ q, q ≠ 0 → S3.2 q = S1.2 q := fun q hq => (o3 q hq).trans (o2 q hq)
    have f03 : ∀ q, q < S.1 → q ≠ 0 → ¬ (31 ≤ q ∧ q < 33) → S3.2 q = S.2 q := fun q q1 q2 q3 => (f13 q q2).trans (o1 q q1 q3)
    have ts3 : TS S3 (rolA R (aHi A).length a) := TS_fr ts1 (by omega) (fun i b q hi hb q1 q2 => f13 q (by have := (ts1.1 i b hi hb).1; omega))
    have trees : ∀ i b q, i < 11 → R i = some b → b ≤ q → q < b + 7 → S3.2 q = S.2 q := fun i b q hi hb q1 q2 => by
      have z1 := (ts.1 i b hi hb).1
      have z2 := TS_sep ts i b hi hb
      exact f03 q (by omega) (by omega) (by omega)
    have r0 : rolA R (aHi A).length a 0 = some d := by unfold rolA; rw [if_pos rfl]; exact hd
    have hdT3 : TR S3 d T := TR_fr hdT (by omega) (fun q q1 q2 => trees 1 d q (by omega) hd q1 q2)
    have sv3 : Sh S3 15 sp6 := sh_fr sk.1 (by omega) (fun q q1 q2 => f03 q (by have : sp6.length = 8 := rfl; omega) (by omega) (by have : sp6.length = 8 := rfl; omega))
    have hh3 := HS_fr hh (S' := S3) (by omega) (fun q q1 q2 => f03 q (by omega) (by omega) (by omega))
    obtain ⟨S4, e4, n4, o4, sk4, hh4⟩ := c_settle x3' ts3 r0 hdT3 hT sv3 hh3 hA.2.2.2.2.1 (fun i hi => tOk_lt hA.1.1 (hA.2.2.2.2.2.1 i hi))
    rw [e4, Option.bind_some]
    have tr4 : ∀ i b q, i < 11 → rolA R (aHi A).length a i = some b → b ≤ q → q < b + 7 → S4.2 q = S3.2 q := fun i b q hi hb q1 q2 => by
      have z1 := (ts3.1 i b hi hb).1
      exact o4 q (by omega) (by omega)
    have f04 : ∀ q, q < S.1 → q ≠ 0 → ¬ (31 ≤ q ∧ q < 33) → ¬ (15 ≤ q ∧ q < 23) → ¬ (33 ≤ q ∧ q < 35) → S4.2 q = S.2 q := fun q q1 q2 q3 q4 q5 => (o4 q q4 q5).trans (f03 q q1 q2 q3)
    exact ⟨S4, rfl, fun q q1 q2 => f04 q (by omega) (by omega) (by omega) (by omega) (by omega)⟩
  rw [e] at e6
  cases e6
  exact f6
theorem c_load (h : CSr S A R c1 c2) (hA : aOk A) (x : Int32) : cC S (eN3 nIAE nUOE) (F_X9_load S 0 x) (stLoad A x) := by
  unfold F_X9_load stLoad
  have hT := hA.1.1
  have ht := txOk_of hA
  have hl := ht.1
  have hcc : (c1 = 35 ∧ c2 = 41) ∨ (c1 = 41 ∧ c2 = 35) := h.2.2.2.2.2.2.2.2.2.2.1
  have xt := h.2.2.2.2.2.1
  rw [x_oF h.1, c_needItem h, Option.bind_some]
  rcases itN_c hT x with ⟨i, hi, rfl, hip, e, e3⟩ | ⟨e, e3⟩
  · rw [e, e3, if_pos rfl]
    simp only [Sum.elim_inl]
    obtain ⟨z0, z1, z2, z3, z4, z5⟩ := h.2.2.2.2.2.2.2.1
    have l6 : sp6.length = 8 := rfl
    have l1 : sp1.length = 6 := rfl
    have l5 : sp5.length = 6 := rfl
    have l2 : sp2.length = 9 := rfl
    obtain ⟨S1, e1, x1, g1, w1⟩ := c_readO ht (Nat.le_refl 55) z3 xt
    have o1 : ∀ q, q ≠ 53 → ¬ (55 ≤ q ∧ q < 63) → S1.2 q = S.2 q := g1.2.1
    have n1 := g1.1
    have xo1 := XO_fr h.1 (S' := S1) (by omega) (o1 0 (by omega) (by omega))
    rw [(x_gs h.1).2.2.2.2.2.2.2.2.1, Option.bind_some, (x_gs h.1).2.2.2.2.2.2.2.1, Option.bind_some, e1, Option.bind_some]
    dsimp only
    obtain ⟨r1, r2, r3⟩ := rdO_ok0 hA
    cases ok : (rdO (aTx A) 40 0 []).1
    · rw [if_neg (show ¬ ¬ (if false = true then (1 : Int32) else 0) = 0 from fun z => z rfl), if_neg (by decide)]
      obtain ⟨S2, e2, xo2, t2, n2, o2⟩ := c_failT xo1 x1
      have o12 : ∀ q, q ≠ 0 → q ≠ 53 → ¬ (55 ≤ q ∧ q < 63) → S2.2 q = S.2 q := fun q a b c => (o2 q a b).trans (o1 q b c)
      obtain ⟨h2, f2⟩ := CSr_txt (S' := S2) (tx := []) (er := some (rdO (aTx A) 40 0 []).2.1) h (by omega) (fun q q1 q2 q3 q4 q5 => o12 q q5 (by omega) (by omega)) ⟨sh_fr z0 (by omega) (fun q q1 q2 => o12 q (by omega) (by omega) (by omega)), sh_fr z1 (by omega) (fun q q1 q2 => o12 q (by omega) (by omega) (by omega)), sh_fr z2 (by omega) (fun q q1 q2 => o12 q (by omega) (by omega) (by omega)), sh_fr g1.2.2 (by omega) (fun q q1 q2 => o2 q (by omega) (by omega)), rawA_fr z4 (by omega) (o12 66 (by decide) (by decide) (by omega)), rawA_fr z5 (by omega) (o12 67 (by decide) (by decide) (by omega))⟩ xo2 t2
      rw [e2, Option.bind_some]
      exact cC_x f2 (cs_of h2) (by decide) rfl
    · rw [if_pos (show ¬ (if true = true then (1 : Int32) else 0) = 0 by decide), if_pos rfl]
      unfold F_X9_load_23
      obtain ⟨S2, e2, t2, n2, o2, -⟩ := c_forget x1.1
      have o12 : ∀ q, q ≠ 53 → ¬ (55 ≤ q ∧ q < 63) → S2.2 q = S.2 q := fun q b c => (o2 q b).trans (o1 q b c)
      have xo2 := XO_fr xo1 (S' := S2) (by omega) (o2 0 (by decide))
      obtain ⟨h2, f2⟩ := CSr_txt (S' := S2) (tx := []) (er := aEr A) h (by omega) (fun q q1 q2 q3 q4 q5 => o12 q (by omega) (by omega)) ⟨sh_fr z0 (by omega) (fun q q1 q2 => o12 q (by omega) (by omega)), sh_fr z1 (by omega) (fun q q1 q2 => o12 q (by omega) (by omega)), sh_fr z2 (by omega) (fun q q1 q2 => o12 q (by omega) (by omega)), sh_fr g1.2.2 (by omega) (fun q q1 q2 => o2 q (by omega)), rawA_fr z4 (by omega) (o12 66 (by decide) (by omega)), rawA_fr z5 (by omega) (o12 67 (by decide) (by omega))⟩ xo2 t2
      have h2' : CSr S2 (aSetTx A []) R c1 c2 := h2
      have hA1 := ok_tx0 hA
      obtain ⟨w2, w3⟩ := w1 ok
      obtain ⟨t, d, S3, ht', hd, e3, h3, f3, t3, o3⟩ := c_copyD2 h2' hA1
      have E3 : EB S3 (rdO (aTx A) 40 0 []).2.2 [] := ⟨fun j e he => rowE_fr (w2 j e he) (fun k a b => by rw [o3 _ (by omega) (by omega), o2 _ (by omega)]), by rw [o3 _ (by omega) (by omega), o2 _ (by omega)]; exact w3, fun j x hj => by simp at hj⟩
      rw [(x_gs xo1).2.2.2.2.2.2.2.1, Option.bind_some, e2, Option.bind_some, x_g1 xo2 hd, Option.bind_some, x_g0 xo2 ht', Option.bind_some, e3, Option.bind_some]
      have hp := c_putEntries h3 hd t3 E3 r2 r3 (lodi0 hA1 (item := i) hip)
      have eqT : aT (aSetTx A []) = aT A := rfl
      rw [eqT] at hp
      cases el : lodE (rdO (aTx A) 40 0 []).2.2 i (aT A) (rdO (aTx A) 40 0 []).2.2.length with
      | inl s =>
        rw [el] at hp
        obtain ⟨S4, e4, h4, f4, t4, c4, k4⟩ := hp
        obtain ⟨S5, e5, h5, f5, o5⟩ := c_adoptF h4 hA1 hd t4 k4
        obtain ⟨R5, b1, b2, h5'⟩ := h5
        have hs5 := h5'.2.2.2.2.2.2.2.1.2.2.2.1
        have esz : F_X2_size S5 55 = some (nI (rdO (aTx A) 40 0 []).2.2.length) := by
          unfold F_X2_size
          rw [s2_oF hs5, s2_g8 hs5, Option.bind_some, o5 55 (by omega) (by omega), c4]
        rw [e4, Option.bind_some]
        dsimp only
        rw [if_pos (by decide), e5, Option.bind_some, (x_gs h5'.1).2.2.2.2.2.2.2.2.1, Option.bind_some, esz, Option.bind_some]
        exact cC_ok (Fm_trans f2 (Fm_trans f3 (Fm_trans f4 f5))) (cs_of h5')
      | inr q =>
        rw [el] at hp
        obtain ⟨S4, e4, h4, f4⟩ := hp
        rw [e4, Option.bind_some]
        dsimp only
        rw [if_neg (fun z => z rfl)]
        exact cC_x (Fm_trans f2 (Fm_trans f3 f4)) (cs_of h4) (by decide) rfl
  · rw [e, e3, if_neg (by decide)]
    exact cC_x (Fm_refl _) (cs_of h) (by decide) rfl
end CL2
