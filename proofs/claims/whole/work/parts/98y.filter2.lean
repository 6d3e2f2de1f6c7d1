/-! the call filter: both sides -/
section FIL
variable {S : pS} {R : Nat → Option Nat} {c1 c2 m : Nat} {A : As}
def stFilter (A : As) : Rs := if aTx A = [] then (aSetCn (aSetTx A []) [], 0, nI ((linesT (aSetCn (aSetTx A []) [])).length - 1)) else
  if (rdF (aTx A) 5 0 []).1 = true then (aSetCn (aSetTx A []) (rdF (aTx A) 5 0 []).2.2, 0, nI ((linesT (aSetCn (aSetTx A []) (rdF (aTx A) 5 0 []).2.2)).length - 1)) else (aSetEr (aSetTx A []) (some (rdF (aTx A) 5 0 []).2.1), 1, 0)
theorem ok_cn (hA : aOk A) {L : List Cnd} (h1 : L.length ≤ 5) (h2 : ∀ q, q ∈ L → cOk q) : aOk (aSetCn (aSetTx A []) L) := by
  obtain ⟨a1, a2, a3, a4, a5, a6, a7, a8, a9, a10, a11, a12, a13⟩ := ok_tx0 hA
  exact ⟨a1, a2, a3, a4, a5, a6, a7, a8, a9, a10, h1, h2, a13⟩
theorem rdF_ok0 (A : As) : (rdF (aTx A) 5 0 []).2.1 ≤ (aTx A).length ∧ (∀ q, q ∈ (rdF (aTx A) 5 0 []).2.2 → cOk q) ∧ (rdF (aTx A) 5 0 []).2.2.length ≤ 5 := by
  have := rdF_ok (tx := aTx A) 5 0 [] (Nat.zero_le _) (fun q hq => by cases hq)
  exact ⟨this.1, this.2.1, by have h := this.2.2; rw [List.length_nil] at h; omega⟩
/-- the conditions change places -/
theorem CSr_swap {S' : pS} {L : List Cnd} (h : CSr S A R c1 c2) (cd : CD S c2 L) (hn : S'.1 = S.1) (o : ∀ q, q ≠ 0 → S'.2 q = S.2 q) (x' : XO S' R c2 c1 (erI (aEr A))) : CSr S' (aSetCn A L) R c2 c1 := by
  obtain ⟨x, ts, ho, hh, cd0, xt, cn, sc, th, sk, cc, hl⟩ := h
  have h111 := x.1
  have o' : ∀ q, 0 < q → S'.2 q = S.2 q := fun q hq => o q (by omega)
  have tf : ∀ i a, i < 11 → R i = some a → ∀ q, a ≤ q → q < a + 7 → S'.2 q = S.2 q := fun i a hi ha q q1 q2 => by
    have := (ts.1 i a hi ha).1
    exact o' q (by omega)
  obtain ⟨z0, z1, z2, z3, z4, z5⟩ := sc
  refine ⟨x', TS_fr ts (by omega) (fun i a q hi ha q1 q2 => tf i a hi ha q q1 q2), HO_fr ho (by omega) (fun q q1 q2 => o' q (by omega)), HS_fr hh (by omega) (fun q q1 q2 => o' q (by omega)), CD_fr cd (by omega) (fun q q1 q2 => o' q (by omega)), XT_fr xt (by omega) (fun q q1 q2 => o' q (by omega)), CN_fr cn (by omega) (fun q q1 q2 => o' q (by omega)), ⟨sh_fr z0 (by omega) (fun q q1 q2 => o' q (by omega)), sh_fr cd0.1 (by omega) (fun q q1 q2 => o' q (by omega)), sh_fr z2 (by omega) (fun q q1 q2 => o' q (by omega)), sh_fr z3 (by omega) (fun q q1 q2 => o' q (by omega)), rawA_fr z4 (by omega) (o' 66 (by omega)), rawA_fr z5 (by omega) (o' 67 (by omega))⟩, ?_, SK_fr sk (by omega) (fun q q1 q2 => o' q (by omega)), by omega, hl⟩
  obtain ⟨b1, b2, b3⟩ := th
  refine ⟨fun t ht => TR_fr (b1 t ht) (by omega) (fun q h1 h2 => tf 0 t (by omega) ht q h1 h2), ?_, fun k U hk => ?_⟩
  · show match aSv A with
      | none => R 2 = none
      | some U => ∃ a, R 2 = some a ∧ TR S' a U
    cases es : aSv A with
    | none => rw [es] at b2; exact b2
    | some U =>
      rw [es] at b2
      obtain ⟨a, h1, h2⟩ := b2
      exact ⟨a, h1, TR_fr h2 (by omega) (fun q h3 h4 => tf 2 a (by omega) h1 q h3 h4)⟩
  · have hk' : (aHi A)[k]? = some U := hk
    obtain ⟨a, h1, h2⟩ := b3 k U hk'
    have := (List.getElem?_eq_some_iff.mp hk').1
    exact ⟨a, h1, TR_fr h2 (by omega) (fun q h3 h4 => tf (3 + k) a (by omega) h1 q h3 h4)⟩
theorem c_filter (h : CSr S A R c1 c2) (hA : aOk A) : cC S (fun _ => nIAE) (F_X9_filter S 0) (stFilter A) := by
  unfold F_X9_filter stFilter
  have ht := txOk_of hA
  have hl := ht.1
  have hcc : (c1 = 35 ∧ c2 = 41) ∨ (c1 = 41 ∧ c2 = 35) := h.2.2.2.2.2.2.2.2.2.2.1
  have xt := h.2.2.2.2.2.1
  have es : F_X7_size S 53 = some (nI (aTx A).length) := by
    unfold F_X7_size
    rw [s7_oF xt.1, s7_g1 xt.1, Option.bind_some, xt.2.1]
  rw [x_oF h.1, (x_gs h.1).2.2.2.2.2.2.2.1, Option.bind_some, es, Option.bind_some]
  by_cases c0 : aTx A = []
  · rw [if_pos c0, if_neg (show ¬ ¬ nI (aTx A).length = 0 from fun z => z (by rw [c0]; rfl))]
    have cd := h.2.2.2.2.1
    have k1 := s1_k5 cd.1 cd.1 0
    have v1 := s1_v5 cd.1 0
    have o1 : ∀ q, q ≠ c1 → (wF S c1 5 (.int 0)).2 q = S.2 q := fun q hq => wF_ne _ _ _ hq
    have n1 : (wF S c1 5 (.int 0)).1 = S.1 := rfl
    have ef : F_X1_forget S c1 = some (wF S c1 5 (.int 0)) := by
      unfold F_X1_forget
      rw [s1_oF cd.1, s1_p5 cd.1, Option.bind_some]
    rw [(x_gs h.1).2.2.2.2.1, Option.bind_some, ef, Option.bind_some]
    generalize wF S c1 5 (.int 0) = S1 at *
    rw [c0] at xt
    obtain ⟨h1, f1⟩ := CSr_re (S' := S1) (H := aHo A) (tx := []) (er := aEr A) (ch := aCh A) (L := []) h n1 (fun q q1 q2 q3 q4 q5 => o1 q (by omega)) (XO_fr h.1 (by omega) (o1 0 (by omega))) (HS_fr h.2.2.2.1 (by omega) (fun q q1 q2 => o1 q (by omega))) ⟨k1, v1, fun n q hq => by simp at hq⟩ (XT_fr xt (by omega) (fun q q1 q2 => o1 q (by omega))) (CN_fr h.2.2.2.2.2.2.1 (by omega) (fun q q1 q2 => o1 q (by omega)))
    have h1' : CSr S1 (aSetCn (aSetTx A []) []) R c1 c2 := h1
    have hA1 := ok_cn hA (L := []) (by show (0 : Nat) ≤ 5; omega) (fun q hq => by cases hq)
    obtain ⟨S2, e2, h2, f2, -⟩ := c_countLines h1' hA1
    rw [e2, Option.bind_some]
    exact cC_ok (Fm_trans f1 f2) (cs_of h2)
  · rw [if_neg c0, if_pos (fun z => c0 ((nI_len0 _ (by omega)).mp z)), (x_gs h.1).2.2.2.2.2.1, Option.bind_some, Option.bind_some]
    obtain ⟨z0, z1, z2, z3, z4, z5⟩ := h.2.2.2.2.2.2.2.1
    have l6 : sp6.length = 8 := rfl
    have l1 : sp1.length = 6 := rfl
    have l5 : sp5.length = 6 := rfl
    have l2 : sp2.length = 9 := rfl
    obtain ⟨S1, e1, x1, g1, w1⟩ := c_read ht (show c2 + 6 ≤ 53 by omega) z1 xt
    have o1 : ∀ q, q ≠ 53 → ¬ (c2 ≤ q ∧ q < c2 + 6) → S1.2 q = S.2 q := g1.2.1
    have n1 := g1.1
    have xo1 := XO_fr h.1 (S' := S1) (by omega) (o1 0 (by omega) (by omega))
    rw [e1, Option.bind_some]
    dsimp only
    obtain ⟨r1, r2, r3⟩ := rdF_ok0 A
    cases ok : (rdF (aTx A) 5 0 []).1
    · rw [if_neg (show ¬ ¬ (if false = true then (1 : Int32) else 0) = 0 from fun z => z rfl), if_neg (by decide)]
      obtain ⟨S2, e2, xo2, t2, n2, o2⟩ := c_failT xo1 x1
      have o12 : ∀ q, q ≠ 0 → q ≠ 53 → ¬ (c2 ≤ q ∧ q < c2 + 6) → S2.2 q = S.2 q := fun q a b c => (o2 q a b).trans (o1 q b c)
      obtain ⟨h2, f2⟩ := CSr_txt (S' := S2) (tx := []) (er := some (rdF (aTx A) 5 0 []).2.1) h (by omega) (fun q q1 q2 q3 q4 q5 => o12 q q5 (by omega) q4) ⟨sh_fr z0 (by omega) (fun q q1 q2 => o12 q (by omega) (by omega) (by omega)), sh_fr g1.2.2 (by omega) (fun q q1 q2 => o2 q (by omega) (by omega)), sh_fr z2 (by omega) (fun q q1 q2 => o12 q (by omega) (by omega) (by omega)), sh_fr z3 (by omega) (fun q q1 q2 => o12 q (by omega) (by omega) (by omega)), rawA_fr z4 (by omega) (o12 66 (by decide) (by decide) (by omega)), rawA_fr z5 (by omega) (o12 67 (by decide) (by decide) (by omega))⟩ xo2 t2
      rw [e2, Option.bind_some]
      exact cC_x f2 (cs_of h2) (by decide) rfl
    · rw [if_pos (show ¬ (if true = true then (1 : Int32) else 0) = 0 by decide), if_pos rfl]
      unfold F_X9_filter_40
      obtain ⟨S2, e2, t2, n2, o2, -⟩ := c_forget x1.1
      have o12 : ∀ q, q ≠ 53 → ¬ (c2 ≤ q ∧ q < c2 + 6) → S2.2 q = S.2 q := fun q b c => (o2 q b).trans (o1 q b c)
      have xo2 := XO_fr xo1 (S' := S2) (by omega) (o2 0 (by decide))
      obtain ⟨h2, f2⟩ := CSr_txt (S' := S2) (tx := []) (er := aEr A) h (by omega) (fun q q1 q2 q3 q4 q5 => o12 q (by omega) q4) ⟨sh_fr z0 (by omega) (fun q q1 q2 => o12 q (by omega) (by omega)), sh_fr g1.2.2 (by omega) (fun q q1 q2 => o2 q (by omega)), sh_fr z2 (by omega) (fun q q1 q2 => o12 q (by omega) (by omega)), sh_fr z3 (by omega) (fun q q1 q2 => o12 q (by omega) (by omega)), rawA_fr z4 (by omega) (o12 66 (by decide) (by omega)), rawA_fr z5 (by omega) (o12 67 (by decide) (by omega))⟩ xo2 t2
      have h2' : CSr S2 (aSetTx A []) R c1 c2 := h2
      have cd2 : CD S2 c2 (rdF (aTx A) 5 0 []).2.2 := CD_fr (w1 ok) (by omega) (fun q q1 q2 => o2 q (by omega))
      obtain ⟨S3, e3, n3, o3, xo3⟩ := x_p7 xo2 c2
      obtain ⟨S4, e4, n4, o4, xo4⟩ := x_p8 xo3 c1
      have h4 := CSr_swap h2' cd2 (S' := S4) (by omega) (fun q hq => (o4 q hq).trans (o3 q hq)) xo4
      have hA1 := ok_cn hA r3 r2
      obtain ⟨S5, e5, h5, f5, -⟩ := c_countLines h4 hA1
      rw [(x_gs xo1).2.2.2.2.2.2.2.1, Option.bind_some, e2, Option.bind_some, (x_gs xo2).2.2.2.2.1, Option.bind_some, (x_gs xo2).2.2.2.2.2.1, Option.bind_some, e3, Option.bind_some, e4, Option.bind_some, e5, Option.bind_some]
      have f4 : Fm S2 S4 := ⟨by omega, fun q q1 q2 => (o4 q (by omega)).trans (o3 q (by omega))⟩
      exact cC_ok (Fm_trans f2 (Fm_trans f4 f5)) (cs_of h5)
/-! the reference -/
theorem r_fcopy {L : List Cnd} (hs : Sh S m sp10) (h30 : fI (S.2 m) 30 = nI L.length) (hl : L.length ≤ 5) (hok : ∀ q, q ∈ L → cOk q) (hr : RwN S m L) : ∃ S', iter (F_X10_filter_58 m) fu ((0 : Int32), S) = some S' ∧ MR S S' m [15, 16, 17, 18, 19] [] ∧ ∀ (n : Nat) (q : Cnd), L[n]? = some q → cI (S'.2 (m + 15)) n = nI q.1 ∧ cI (S'.2 (m + 19)) n = (if q.2.1 = true then 1 else 0) ∧ (q.1 = 4 ∨ q.1 = 5 → cI (S'.2 (m + 16)) n = q.2.2.1) ∧ (q.1 = 6 → cI (S'.2 (m + 17)) n = nI q.2.2.2.length ∧ ∀ (k : Nat) x, q.2.2.2[k]? = some x → cI (S'.2 (m + 18)) (10 * n + k) = x) := by
  refine iter_fu (F := F_X10_filter_58 m) (s := ((0 : Int32), S)) (fun j s => s.1 = nI j ∧ MR S s.2 m [15, 16, 17, 18, 19] [] ∧ ∀ (n : Nat) (q : Cnd), n < j → L[n]? = some q → cI (s.2.2 (m + 15)) n = nI q.1 ∧ cI (s.2.2 (m + 19)) n = (if q.2.1 = true then 1 else 0) ∧ (q.1 = 4 ∨ q.1 = 5 → cI (s.2.2 (m + 16)) n = q.2.2.1) ∧ (q.1 = 6 → cI (s.2.2 (m + 17)) n = nI q.2.2.2.length ∧ ∀ (k : Nat) x, q.2.2.2[k]? = some x → cI (s.2.2 (m + 18)) (10 * n + k) = x)) L.length (by omega) ⟨rfl, MR_refl hs _ _, fun n q hn => absurd hn (Nat.not_lt_zero _)⟩ ?_ ?_
  · rintro ⟨b, S1⟩ ⟨h1, m1, w1⟩
    dsimp only at h1 m1 w1
    subst h1
    unfold F_X10_filter_58
    rw [s10_g30 m1.1, Option.bind_some, m1.2.2.2.2 30 (by simp), h30, if_pos (Int32.le_refl _)]
    exact ⟨_, rfl, m1, fun n q hq => w1 n q (List.getElem?_eq_some_iff.mp hq).1 hq⟩
  · rintro j ⟨b, S1⟩ hj ⟨h1, m1, w1⟩
    dsimp only at h1 m1 w1
    subst h1
    have hq := List.getElem?_eq_getElem hj
    obtain ⟨q1, q2, q3, q4⟩ := hr j _ hq
    have hqok := hok _ (List.getElem_mem hj)
    generalize L[j] = q at *
    have a1 : ∀ k, 20 ≤ k → k < 25 → S1.2 (m + k) = S.2 (m + k) := fun k h1 h2 => m1.2.2.2.1 k (by simp; omega) (by omega)
    unfold F_X10_filter_58
    rw [s10_g30 m1.1, Option.bind_some, m1.2.2.2.2 30 (by simp), h30, if_neg (nI_ge hj (by omega)), s10_g25 m1.1, Option.bind_some, s10_g31 m1.1, Option.bind_some]
    dsimp only
    rw [s10_r31 m1.1 (by omega), Option.bind_some, s10_w25 m1.1 (by omega), Option.bind_some]
    have m2 := MR_I (MR_refl m1.1 [15, 16, 17, 18, 19] []) (j := 15) (by decide) (by decide) (by decide) j (cI (S1.2 (m + 20)) j)
    have v2 := s10_v25 m1.1 j (cI (S1.2 (m + 20)) j)
    have o2 : ∀ q, q ≠ m + 15 → (wI S1 (m + 15) j (cI (S1.2 (m + 20)) j)).2 q = S1.2 q := fun q hq => wI_ne _ _ _ hq
    generalize wI S1 (m + 15) j (cI (S1.2 (m + 20)) j) = S2 at *
    rw [s10_g26 m2.1, Option.bind_some, s10_g32 m2.1, Option.bind_some, s10_r32 m2.1 (by omega), Option.bind_some, s10_w26 m2.1 (by omega), Option.bind_some]
    have m3 := MR_I m2 (j := 16) (by decide) (by decide) (by decide) j (cI (S2.2 (m + 21)) j)
    have v3 := s10_v26 m2.1 j (cI (S2.2 (m + 21)) j)
    have o3 : ∀ q, q ≠ m + 16 → (wI S2 (m + 16) j (cI (S2.2 (m + 21)) j)).2 q = S2.2 q := fun q hq => wI_ne _ _ _ hq
    generalize wI S2 (m + 16) j (cI (S2.2 (m + 21)) j) = S3 at *
    rw [s10_g27 m3.1, Option.bind_some, s10_g33 m3.1, Option.bind_some, s10_r33 m3.1 (by omega), Option.bind_some, s10_w27 m3.1 (by omega), Option.bind_some]
    have m4 := MR_I m3 (j := 17) (by decide) (by decide) (by decide) j (cI (S3.2 (m + 22)) j)
    have v4 := s10_v27 m3.1 j (cI (S3.2 (m + 22)) j)
    have o4 : ∀ q, q ≠ m + 17 → (wI S3 (m + 17) j (cI (S3.2 (m + 22)) j)).2 q = S3.2 q := fun q hq => wI_ne _ _ _ hq
    generalize wI S3 (m + 17) j (cI (S3.2 (m + 22)) j) = S4 at *
    have h24 : cI (S4.2 (m + 24)) j = if q.2.1 = true then 1 else 0 := by rw [o4 _ (by omega), o3 _ (by omega), o2 _ (by omega), a1 24 (by omega) (by omega)]; exact q2
    rw [s10_g29 m4.1, Option.bind_some, s10_g35 m4.1, Option.bind_some, s10_r35 m4.1 (by omega), Option.bind_some, h24, s10_w29 m4.1 (by omega), Option.bind_some]
    have m5 := MR_I m4 (j := 19) (by decide) (by decide) (by decide) j (if q.2.1 = true then 1 else 0)
    have v5 := s10_v29 m4.1 j (bo_nar q.2.1)
    have o5 : ∀ q', q' ≠ m + 19 → (wI S4 (m + 19) j (if q.2.1 = true then 1 else 0)).2 q' = S4.2 q' := fun q hq => wI_ne _ _ _ hq
    generalize wI S4 (m + 19) j (if q.2.1 = true then 1 else 0) = S5 at *
    obtain ⟨S6, e6, m6, c6, d6⟩ : ∃ S6, iter (F_X10_filter_116 m (nI j)) fu ((0 : Int32), S5) = some S6 ∧ MR S5 S6 m [18] [] ∧ (∀ k, k < 10 → cI (S6.2 (m + 18)) (10 * j + k) = cI (S5.2 (m + 23)) (10 * j + k)) ∧ ∀ i, i < 10 * j → cI (S6.2 (m + 18)) i = cI (S5.2 (m + 18)) i := by
      refine iter_fu (F := F_X10_filter_116 m (nI j)) (s := ((0 : Int32), S5)) (fun k x => x.1 = nI k ∧ MR S5 x.2 m [18] [] ∧ (∀ i, i < k → cI (x.2.2 (m + 18)) (10 * j + i) = cI (S5.2 (m + 23)) (10 * j + i)) ∧ ∀ i, i < 10 * j → cI (x.2.2 (m + 18)) i = cI (S5.2 (m + 18)) i) 10 (by omega) ⟨rfl, MR_refl m5.1 _ _, fun i hi => absurd hi (Nat.not_lt_zero _), fun _ _ => rfl⟩ ?_ ?_
      · rintro ⟨b, X1⟩ ⟨h1, x1, y1, z1⟩
        dsimp only at h1 x1 y1 z1
        subst h1
        unfold F_X10_filter_116
        rw [if_pos le10]
        exact ⟨_, rfl, x1, y1, z1⟩
      · rintro k ⟨b, X1⟩ hk ⟨h1, x1, y1, z1⟩
        dsimp only at h1 x1 y1 z1
        subst h1
        unfold F_X10_filter_116
        rw [if_neg (ge10 hk), s10_g28 x1.1, Option.bind_some, s10_g34 x1.1, Option.bind_some]
        dsimp only
        rw [li_10, pk_mul, nI_add, s10_r34 x1.1 (by omega), Option.bind_some, s10_w28 x1.1 (by omega), Option.bind_some, nI_1]
        have v := s10_v28 x1.1 (10 * j + k) (cI (X1.2 (m + 23)) (10 * j + k))
        refine ⟨_, rfl, rfl, MR_I x1 (j := 18) (by decide) (by decide) (by decide) _ _, fun i hi => ?_, fun i hi => ?_⟩
        · dsimp only
          rw [v]
          by_cases c : i = k
          · rw [c, pu_at, x1.2.2.2.1 23 (by decide) (by decide)]
          · rw [pu_ne _ _ _ (by omega)]; exact y1 i (by omega)
        · dsimp only
          rw [v, pu_ne _ _ _ (by omega)]; exact z1 i hi
    rw [e6, Option.bind_some, nI_1]
    refine ⟨_, rfl, rfl, MR_trans m1 (MR_trans m5 (MR_sub m6 (by decide) (by simp))), fun n q' hn hq' => ?_⟩
    have b15 : S6.2 (m + 15) = S2.2 (m + 15) := by rw [m6.2.2.2.1 15 (by decide) (by decide), o5 _ (by omega), o4 _ (by omega), o3 _ (by omega)]
    have b16 : S6.2 (m + 16) = S3.2 (m + 16) := by rw [m6.2.2.2.1 16 (by decide) (by decide), o5 _ (by omega), o4 _ (by omega)]
    have b17 : S6.2 (m + 17) = S4.2 (m + 17) := by rw [m6.2.2.2.1 17 (by decide) (by decide), o5 _ (by omega)]
    have b19 : S6.2 (m + 19) = S5.2 (m + 19) := by rw [m6.2.2.2.1 19 (by decide) (by decide)]
    have b18 : S5.2 (m + 18) = S1.2 (m + 18) := by rw [o5 _ (by omega), o4 _ (by omega), o3 _ (by omega), o2 _ (by omega)]
    have b23 : S5.2 (m + 23) = S.2 (m + 23) := by rw [o5 _ (by omega), o4 _ (by omega), o3 _ (by omega), o2 _ (by omega), a1 23 (by omega) (by omega)]
    dsimp only
    rw [b15, b16, b17, b19, v2, v3, v4, v5]
    by_cases c : n = j
    · subst c
      rw [hq] at hq'
      cases hq'
      rw [pu_at, pu_at, pu_at, pu_at]
      refine ⟨by rw [a1 20 (by omega) (by omega)]; exact q1, rfl, fun z => by rw [o2 _ (by omega), a1 21 (by omega) (by omega)]; exact q3 z, fun z => ⟨by rw [o3 _ (by omega), o2 _ (by omega), a1 22 (by omega) (by omega)]; exact (q4 z).1, fun k x hk => ?_⟩⟩
      have hk2 := (List.getElem?_eq_some_iff.mp hk).1
      have := hqok.2.1
      rw [c6 k (by omega), b23]
      exact (q4 z).2 k x hk
    · obtain ⟨u1, u2, u3, u4⟩ := w1 n q' (by omega) hq'
      rw [pu_ne _ _ _ c, pu_ne _ _ _ c, pu_ne _ _ _ c, pu_ne _ _ _ c]
      refine ⟨u1, by rw [o4 _ (by omega), o3 _ (by omega), o2 _ (by omega)]; exact u2, fun z => by rw [o2 _ (by omega)]; exact u3 z, fun z => ⟨by rw [o3 _ (by omega), o2 _ (by omega)]; exact (u4 z).1, fun k x hk => ?_⟩⟩
      have hk2 := (List.getElem?_eq_some_iff.mp hk).1
      have := (hok q' (List.mem_of_getElem? hq')).2.1
      rw [d6 _ (by omega), b18]
      exact (u4 z).2 k x hk
theorem r_f53 {L : List Cnd} {S0 : pS} (hb : Bk S0 S m 41) (h : RS S m (aSetTx A [])) (hA : aOk A) (t0 : fI (S.2 m) 0 = 0) (hl : L.length ≤ 5) (hok : ∀ q, q ∈ L → cOk q) (hr : RwN S m L) : rC S0 m (F_X10_filter_53 S m m (nI L.length)) (aSetCn (aSetTx A []) L, 0, nI ((linesT (aSetCn (aSetTx A []) L)).length - 1)) := by
  unfold F_X10_filter_53
  have k1 := s10_k30 h.1.1 h.1.1 (nI L.length)
  have m1 := r_setF h.1.1 (nI L.length) k1
  have v1 := s10_v30 h.1.1 (nI L.length)
  rw [s10_p30 h.1.1, Option.bind_some]
  generalize wF S m 30 (.int (nI L.length)) = S1 at *
  obtain ⟨S2, e2, m2, w2⟩ := r_fcopy k1 v1 hl hok (RwN_M hr m1)
  rw [e2, Option.bind_some]
  have hR : RR S2 m (aT A) := MR_RR m2 (by decide) (MR_RR m1 (by decide) h.1)
  have hX : RX S2 m (aSetCn (aSetTx A []) L) := by
    obtain ⟨x1, x2, x3, x4, x5, x6, x7, x8, x9, x10, x11, x12, x13⟩ := h.2
    have f : ∀ k, k ≠ 30 → fI (S2.2 m) k = fI (S.2 m) k := fun k hk => by rw [m2.2.2.2.2 k (by simp), m1.2.2.2.2 k (by simpa using hk)]
    have a : ∀ j, j ∉ [15, 16, 17, 18, 19] → j ≠ 0 → S2.2 (m + j) = S.2 (m + j) := fun j hj h0 => by rw [m2.2.2.2.1 j hj h0, m1.2.2.2.1 j (by simp) h0]
    unfold RX
    rw [f 5 (by decide), f 6 (by decide), f 8 (by decide), f 10 (by decide), f 11 (by decide), f 13 (by decide), a 2 (by decide) (by decide), a 4 (by decide) (by decide), a 5 (by decide) (by decide), a 6 (by decide) (by decide), a 7 (by decide) (by decide)]
    exact ⟨x1, x2, x3, x4, x5, x6, x7, x8, x9, x10, x11, by rw [m2.2.2.2.2 30 (by simp)]; exact v1, w2⟩
  have hA1 := ok_cn hA hl hok
  have h2 : RS S2 m (aSetCn (aSetTx A []) L) := ⟨hR, hX⟩
  obtain ⟨S3, e3, h3, m3, L3⟩ := r_lines h2 hA1
  rw [e3, Option.bind_some, s10_g41 h3.1.1, Option.bind_some, L3.1]
  exact ⟨_, _, rfl, h3, Bk_trans hb (Bk_trans (Bk_MR m1) (Bk_trans (Bk_MR m2) (Bk_MR m3))), by rw [m3.2.2.2.2 0 (by decide), m2.2.2.2.2 0 (by simp), m1.2.2.2.2 0 (by decide)]; exact t0, fun _ => rfl⟩
theorem r_filter (h : RS S m A) (hA : aOk A) : rC S m (F_X10_filter S m) (stFilter A) := by
  unfold F_X10_filter stFilter
  have ht := txOk_of hA
  have hl := ht.1
  obtain ⟨S1, e1, h1, m1, t1⟩ := r_start h 0
  obtain ⟨S2, e2, h2, m2, p2⟩ := r_begins h1
  have b2 : Bk S S2 m 41 := Bk_trans (Bk_MR m1) (Bk_MR m2)
  have t2 : fI (S2.2 m) 0 = 0 := by rw [m2.2.2.2.2 0 (by decide)]; exact t1
  obtain ⟨r1, r2, r3⟩ := rdF_ok0 A
  rw [s10_oF h.1.1, e1, Option.bind_some, e2, Option.bind_some, s10_g22 h2.1.1, Option.bind_some, p2.2.1]
  by_cases c0 : aTx A = []
  · rw [if_pos c0, if_pos (show nI (aTx A).length ≤ (0 : Int32) by rw [c0]; decide)]
    unfold F_X10_filter_37
    rw [s10_g22 h2.1.1, Option.bind_some, p2.2.1, if_neg (show ¬ ¬ nI (aTx A).length = 0 from fun z => z (by rw [c0]; rfl))]
    exact r_f53 (L := []) b2 h2 hA t2 (by show (0 : Nat) ≤ 5; omega) (fun q hq => by cases hq) (fun j q hq => by simp at hq)
  · have hpos : 0 < (aTx A).length := List.length_pos_iff.mpr c0
    rw [if_neg c0, if_neg (show ¬ nI (aTx A).length ≤ (0 : Int32) from nI_ge (a := 0) hpos (by omega))]
    obtain ⟨S3, e3, m3, p3, w3⟩ := r_readsFilter h2.1.1 p2 ht
    have h3 := RS_fr h2 m3 (by decide) (by decide) (by decide)
    have t3 : fI (S3.2 m) 0 = 0 := by rw [m3.2.2.2.2 0 (by decide)]; exact t2
    have b3 := Bk_trans b2 (Bk_MR m3)
    rw [e3, Option.bind_some]
    dsimp only
    cases ok : (rdF (aTx A) 5 0 []).1
    · rw [if_neg (show ¬ ¬ (if false = true then (1 : Int32) else 0) = 0 from fun z => z rfl), if_neg (by decide), s10_g21 h3.1.1, Option.bind_some, p3.1, s10_p11 h3.1.1, Option.bind_some]
      have k4 := s10_k11 h3.1.1 h3.1.1 (nI (rdF (aTx A) 5 0 []).2.1)
      have v4 := s10_v11 h3.1.1 (nI (rdF (aTx A) 5 0 []).2.1)
      have m4 := r_setF h3.1.1 (nI (rdF (aTx A) 5 0 []).2.1) k4
      generalize wF S3 m 11 (.int (nI (rdF (aTx A) 5 0 []).2.1)) = S4 at *
      have h4 : RS S4 m (aSetEr (aSetTx A []) (some (rdF (aTx A) 5 0 []).2.1)) := ⟨MR_RR m4 (by decide) h3.1, RX_er h3.2 m4 (by decide) v4⟩
      exact rC_fail (Bk_trans b3 (Bk_MR m4)) h4 1 0 (by decide)
    · rw [if_pos (show ¬ (if true = true then (1 : Int32) else 0) = 0 by decide), if_pos rfl]
      obtain ⟨w4, w5⟩ := w3 ok
      unfold F_X10_filter_37
      rw [s10_g22 h3.1.1, Option.bind_some, p3.2.1, if_pos (nI_n0 (by omega) (by omega)), s10_g36 h3.1.1, Option.bind_some, w5]
      exact r_f53 b3 h3 hA t3 r3 r2 w4
end FIL
