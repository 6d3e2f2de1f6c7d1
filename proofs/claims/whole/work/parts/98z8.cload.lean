/-! load: the class -/
section CLO
variable {S : pS} {R : Nat → Option Nat} {c1 c2 : Nat} {A : As} {L : List Ent} {I : List Nat} {T U : Tr} {item k : Nat}
/-- what stands of the entries and of their items -/
def EB (S : pS) (L : List Ent) (I : List Nat) : Prop := RwsE S 55 L ∧ fI (S.2 55) 8 = nI L.length ∧ ∀ (j : Nat) x, I[j]? = some x → cI (S.2 63) j = nI x
theorem EB_fr {S1 : pS} (h : EB S L I) (o : ∀ q, 55 ≤ q → q < 64 → S1.2 q = S.2 q) : EB S1 L I := by
  refine ⟨fun j e he => rowE_fr (h.1 j e he) (fun k a b => o _ (by omega) (by omega)), by rw [o 55 (by omega) (by omega)]; exact h.2.1, fun j x hj => by rw [o 63 (by omega) (by omega)]; exact h.2.2 j x hj⟩
theorem c_trialF (h : CSr S A R c1 c2) {d : Nat} {U : Tr} (hd : R 1 = some d) (hU : TR S d U) (hok : tOk U) : ∃ S1, F_X6_measure S 23 d = some S1 ∧ CSr S1 A R c1 c2 ∧ Fm S S1 ∧ TR S1 d U ∧ SK S1 23 U ∧ ∀ q, ¬ (23 ≤ q ∧ q < 31) → S1.2 q = S.2 q := by
  have hp := (h.2.1.1 1 d (by omega) hd).1
  have hc : (c1 = 35 ∧ c2 = 41) ∨ (c1 = 41 ∧ c2 = 35) := h.2.2.2.2.2.2.2.2.2.2.1
  have hs := h.2.2.2.2.2.2.2.1
  obtain ⟨S1, e, m1, k1⟩ := c_measure hs.1 hU (by omega) hok
  have fr : ∀ q, ¬ (23 ≤ q ∧ q < 31) → S1.2 q = S.2 q := fun q hq => m1.2.2.1 q (by omega)
  have n1 : S1.1 = S.1 := m1.2.1
  have hU1 := MS_TR m1 (by omega) hU
  have h67 : rawA S1 67 .int 12 := rawA_fr hs.2.2.2.2.2 (by omega) (fr 67 (by omega))
  have h66 : rawA S1 66 .char 10 := rawA_fr hs.2.2.2.2.1 (by omega) (fr 66 (by omega))
  exact ⟨S1, e, CSr_fr h (by omega) ⟨k1.1, sh_fr hs.2.1 (by omega) (fun q q1 q2 => fr q (by have : sp1.length = 6 := rfl; omega)), sh_fr hs.2.2.1 (by omega) (fun q q1 q2 => fr q (by omega)), sh_fr hs.2.2.2.1 (by omega) (fun q q1 q2 => fr q (by omega)), h66, h67⟩ (fun d' hd' => by rw [hd] at hd'; cases hd'; exact hU1.1) (fun q q1 q2 => fr q (fun z => q2 (Or.inl z))), ⟨by omega, fun q q1 q2 => fr q (by omega)⟩, hU1, k1, fr⟩
theorem c_parentFor (hs : Sh S 55 sp2) (hE : EB S L I) (hL : ELo L) (hl : L.length ≤ 40) (hk : k < L.length) (hI : I.length = k) : F_X2_parentFor S 55 (nI k) (nI item) = some (nI (parE L I k item)) := by
  have ek := enL_ok hL hk
  have key : ∀ j, j ≤ k → ∃ s' n, n ≤ j ∧ Run (F_X2_parentFor_4 55 (nI k) (nI item) S) (nI j - 1) s' n ∧ F_X2_parentFor_4 55 (nI k) (nI item) S s' = some (.inr (match fndL L (enL L k).1 j with | some i => .inl (nI i) | none => .inr ())) := by
    intro j
    induction j with
    | zero =>
      intro _
      refine ⟨_, 0, Nat.le_refl _, Run_0, ?_⟩
      unfold F_X2_parentFor_4
      rw [if_pos (by decide)]
      rfl
    | succ j ih =>
      intro hj
      have ej := enL_ok hL (show j < L.length by omega)
      have e0 : F_X2_parentFor_4 55 (nI k) (nI item) S (nI (j + 1) - 1) = if ¬ nI (enL L j).1 = nI (enL L k).1 - 1 then some (.inl (nI j - 1)) else some (.inr (.inl (nI j))) := by
        have g0 : oGA S 55 2 0 = some 56 := s2_g0 hs
        have r1 : oAI S 56 .int (nI j) = some (cI (S.2 56) j) := s2_r0 hs (i := j) (by omega)
        have r2 : oAI S 56 .int (nI k) = some (cI (S.2 56) k) := s2_r0 hs (i := k) (by omega)
        have w1 : cI (S.2 56) j = nI (enL L j).1 := (hE.1 j _ ej.1).1
        have w2 : cI (S.2 56) k = nI (enL L k).1 := (hE.1 k _ ek.1).1
        unfold F_X2_parentFor_4
        rw [nI_pred, if_neg (nI_pos (by omega)), g0, Option.bind_some, r1, Option.bind_some, Option.bind_some, r2, Option.bind_some, w1, w2, Int32.sub_eq_add_neg (nI j)]
      have eq : fndL L (enL L k).1 (j + 1) = if (enL L j).1 + 1 = (enL L k).1 then some j else fndL L (enL L k).1 j := rfl
      have hlv := lv_eq (a := (enL L j).1) (lv := (enL L k).1) (by omega) (by omega)
      rw [eq]
      by_cases c : (enL L j).1 + 1 = (enL L k).1
      · rw [if_neg (fun z => z (hlv.mpr c))] at e0
        rw [if_pos c]
        exact ⟨_, 0, Nat.zero_le _, Run_0, e0⟩
      · rw [if_pos (fun z => c (hlv.mp z))] at e0
        rw [if_neg c]
        obtain ⟨s', n, n1, run, ex⟩ := ih (by omega)
        exact ⟨s', 1 + n, by omega, Run_t (Run_1 e0) run, ex⟩
  obtain ⟨s', n, n1, run, ex⟩ := key k (Nat.le_refl _)
  unfold F_X2_parentFor parE
  rw [s2_oF hs, Run_end run (by omega) ex, Option.bind_some]
  cases ef : fndL L (enL L k).1 k with
  | none => rfl
  | some j =>
    have hj := (fndL_lt k j ef).1
    have g7 : oGA S 55 2 7 = some 63 := s2_g7 hs
    have r7 : oAI S 63 .int (nI j) = some (cI (S.2 63) j) := s2_r7 hs (i := j) (by omega)
    have hv := hE.2.2 j (I.getD j 0) (by rw [List.getD_eq_getElem?_getD, List.getElem?_eq_getElem (show j < I.length by omega)]; rfl)
    simp only [Sum.elim_inl]
    rw [g7, Option.bind_some, r7, Option.bind_some, hv]
theorem c_toClone {v : Nat} (hs : Sh S 55 sp2) (hE : EB S L I) (hL : ELo L) (hl : L.length ≤ 40) (hk : k < L.length) (hI : I.length = k) (hv : (enL L k).2.1 = some v) : F_X2_itemToClone S 55 (nI k) = some (nI (I.getD v 0)) := by
  have ek := enL_ok hL hk
  have hvk := ek.2.2.2.1 v hv
  unfold F_X2_itemToClone
  have g1 : oGA S 55 2 1 = some 57 := s2_g1 hs
  have r1 : oAI S 57 .int (nI k) = some (cI (S.2 57) k) := s2_r1 hs (i := k) (by omega)
  have w1 : cI (S.2 57) k = nI v := by
    have := (hE.1 k _ ek.1).2.1
    rw [hv] at this
    exact this
  have g7 : oGA S 55 2 7 = some 63 := s2_g7 hs
  have r7 : oAI S 63 .int (nI v) = some (cI (S.2 63) v) := s2_r7 hs (i := v) (by omega)
  have hx := hE.2.2 v (I.getD v 0) (by rw [List.getD_eq_getElem?_getD, List.getElem?_eq_getElem (show v < I.length by omega)]; rfl)
  rw [s2_oF hs, g1, Option.bind_some, r1, Option.bind_some, w1, if_pos (Int32.not_lt.mp (nI_pos (by omega))), g7, Option.bind_some, r7, Option.bind_some, hx]
/-- an item is written behind the others -/
theorem c_w63 (h : CSr S A R c1 c2) (hE : EB S L I) (hk : I.length < 40) (x : Nat) : oSI S 63 .int (nI I.length) (nI x) = some (wI S 63 I.length (nI x)) ∧ CSr (wI S 63 I.length (nI x)) A R c1 c2 ∧ Fm S (wI S 63 I.length (nI x)) ∧ EB (wI S 63 I.length (nI x)) L (I ++ [x]) ∧ (∀ q, q ≠ 63 → (wI S 63 I.length (nI x)).2 q = S.2 q) ∧ cI ((wI S 63 I.length (nI x)).2 63) I.length = nI x := by
  have hs := h.2.2.2.2.2.2.2.1
  have hc : (c1 = 35 ∧ c2 = 41) ∨ (c1 = 41 ∧ c2 = 35) := h.2.2.2.2.2.2.2.2.2.2.1
  have hv : cI ((wI S 63 I.length (nI x)).2 63) = pu (cI (S.2 63)) I.length (nI x) := s2_v7 hs.2.2.2.1 I.length (nI x)
  have o : ∀ q, q ≠ 63 → (wI S 63 I.length (nI x)).2 q = S.2 q := fun q hq => wI_ne _ _ _ hq
  refine ⟨s2_w7 hs.2.2.2.1 hk _, CSr_fr h (Nat.le_refl _) ⟨sh_wI hs.1 _ _ _, sh_wI hs.2.1 _ _ _, sh_wI hs.2.2.1 _ _ _, sh_wI hs.2.2.2.1 _ _ _, rawA_fr hs.2.2.2.2.1 (Nat.le_refl _) (o 66 (by decide)), rawA_fr hs.2.2.2.2.2 (Nat.le_refl _) (o 67 (by decide))⟩ (fun d hd => sh_wI (h.2.1.1 1 d (by omega) hd).2 _ _ _) (fun q q1 q2 => o q (by omega)), ⟨Nat.le_refl _, fun q q1 q2 => o q (by omega)⟩, ⟨fun j e he => rowE_fr (hE.1 j e he) (fun k a b => o _ (by omega)), by rw [o 55 (by decide)]; exact hE.2.1, fun j y hj => ?_⟩, o, by rw [hv, pu_at]⟩
  rw [hv]
  have hj2 := (List.getElem?_eq_some_iff.mp hj).1
  rw [List.length_append, List.length_singleton] at hj2
  by_cases z : j = I.length
  · subst z
    rw [List.getElem?_append_right (Nat.le_refl _), Nat.sub_self] at hj
    have : x = y := by simpa using hj
    rw [pu_at, this]
  · rw [List.getElem?_append_left (by omega)] at hj
    rw [pu_ne _ _ _ z]
    exact hE.2.2 j y hj
/-- the item of an entry -/
theorem c_itemNew (h : CSr S A R c1 c2) {d : Nat} (hd : R 1 = some d) (hT : TR S d T) (hok : tOk T) (hE : EB S L I) (hL : ELo L) (hl : L.length ≤ 40) (hk : I.length < L.length) (hn : (enL L I.length).2.1 = none) (hm : tMade T < 60) : ∃ S', F_X2_itemFor S 55 d (nI I.length) = some (nI (tMade T + 1), S') ∧ CSr S' A R c1 c2 ∧ Fm S S' ∧ TR S' d (tEnt T (enL L I.length)) ∧ EB S' L (I ++ [tMade T + 1]) := by
  obtain ⟨ek, eklv, eok⟩ := enL_ok hL hk
  have hs := h.2.2.2.2.2.2.2.1.2.2.2.1
  have hdp := (h.2.1.1 1 d (by omega) hd).1
  obtain ⟨w1, w2, w3⟩ := hE.1 _ _ ek
  obtain ⟨w4, w5, w6, w7, w8⟩ := w3 hn
  have hnm : (enL L I.length).2.2.1.length ≤ 10 ∧ ∀ x, x ∈ (enL L I.length).2.2.1 → 97 ≤ x ∧ x ≤ 122 := ⟨eok.2.2.2.1, eok.2.2.2.2.1⟩
  generalize enL L I.length = e at *
  unfold F_X2_itemFor
  have g2 : oGA S 55 2 2 = some 58 := s2_g2 hs
  have g3 : oGA S 55 2 3 = some 59 := s2_g3 hs
  have r3 : oAI S 59 .int (nI I.length) = some (cI (S.2 59) I.length) := s2_r3 hs (by omega)
  have w4' : cI (S.2 59) I.length = nI e.2.2.1.length := w4
  have hl2 : sp2.length = 9 := rfl
  obtain ⟨g, q2, q3⟩ := hs.2 3 _ rfl
  have q2' : S.2 58 = .inl (.char, 400, .inl g) := q2
  have h111 := h.1.1
  obtain ⟨S1, e1, t1, b1⟩ := c_makeItem (l := 58) (N := 400) (s := 10 * I.length) (nm := e.2.2.1) hT hok hm hnm.1 (by omega) (by omega) q2' q3 (by decide) (by omega) (fun j x hx => by
    have := w5 j x hx
    rw [q2] at this
    exact this)
  obtain ⟨h1, f1⟩ := c_draft h hd b1 t1.1
  have hmk := mk_ok hok hm hnm
  have hM : tPres (tMk T e.2.2.1) (tMade T + 1) = true := pu_at _ _ _
  have o1 : ∀ q, 15 ≤ q → q < 111 → S1.2 q = S.2 q := fun q a b => b1.2 q (by omega)
  have hs1 := h1.2.2.2.2.2.2.2.1.2.2.2.1
  obtain ⟨S2, e2, t2, b2⟩ := c_setDay t1 hmk hM e.2.2.2.1
  obtain ⟨h2, f2⟩ := c_draft h1 hd b2 t2.1
  have o2 : ∀ q, 15 ≤ q → q < 111 → S2.2 q = S.2 q := fun q a b => (b2.2 q (by omega)).trans (o1 q a b)
  have hs2 := h2.2.2.2.2.2.2.2.1.2.2.2.1
  obtain ⟨S3, e3, t3, b3⟩ := c_setValue (T := tSetD (tMk T e.2.2.1) (tMade T + 1) e.2.2.2.1) t2 hmk (i := tMade T + 1) hM e.2.2.2.2.1
  obtain ⟨h3, f3⟩ := c_draft h2 hd b3 t3.1
  have o3 : ∀ q, 15 ≤ q → q < 111 → S3.2 q = S.2 q := fun q a b => (b3.2 q (by omega)).trans (o2 q a b)
  have hs3 := h3.2.2.2.2.2.2.2.1.2.2.2.1
  obtain ⟨S4, e4, t4, b4⟩ := c_setDone (T := tSetV (tSetD (tMk T e.2.2.1) (tMade T + 1) e.2.2.2.1) (tMade T + 1) e.2.2.2.2.1) t3 hmk (i := tMade T + 1) hM (if e.2.2.2.2.2 = true then 1 else 0)
  obtain ⟨h4, f4⟩ := c_draft h3 hd b4 t4.1
  have o4 : ∀ q, 15 ≤ q → q < 111 → S4.2 q = S.2 q := fun q a b => (b4.2 q (by omega)).trans (o3 q a b)
  have hs4 := h4.2.2.2.2.2.2.2.1.2.2.2.1
  have ed : decide ((if e.2.2.2.2.2 = true then (1 : Int32) else 0) ≠ 0) = e.2.2.2.2.2 := by cases e.2.2.2.2.2 <;> rfl
  rw [ed] at t4
  obtain ⟨e5, h5, f5, E5, o5, v5⟩ := c_w63 h4 (EB_fr hE (fun q a b => o4 q (by omega) (by omega))) (by omega) (tMade T + 1)
  have t5 : TR (wI S4 63 I.length (nI (tMade T + 1))) d (tEnt T e) := TR_fr t4 (Nat.le_refl _) (fun q a b => o5 q (by omega))
  have g4 : oGA S1 55 2 4 = some 60 := s2_g4 hs1
  have r4 : oAI S1 60 .int (nI I.length) = some e.2.2.2.1 := by rw [show oAI S1 60 .int (nI I.length) = some (cI (S1.2 60) I.length) from s2_r4 hs1 (by omega), o1 60 (by omega) (by omega)]; exact congrArg some w6
  have g5 : oGA S2 55 2 5 = some 61 := s2_g5 hs2
  have r5 : oAI S2 61 .int (nI I.length) = some e.2.2.2.2.1 := by rw [show oAI S2 61 .int (nI I.length) = some (cI (S2.2 61) I.length) from s2_r5 hs2 (by omega), o2 61 (by omega) (by omega)]; exact congrArg some w7
  have g6 : oGA S3 55 2 6 = some 62 := s2_g6 hs3
  have r6 : oAI S3 62 .boolean (nI I.length) = some (if e.2.2.2.2.2 = true then 1 else 0) := by rw [show oAI S3 62 .boolean (nI I.length) = some (cI (S3.2 62) I.length) from s2_r6 hs3 (by omega), o3 62 (by omega) (by omega)]; exact congrArg some w8
  have g7 : oGA S4 55 2 7 = some 63 := s2_g7 hs4
  have eC : F_X2_isClone S 55 (nI I.length) = some 0 := by
    have := c_isClone hs hE.1 hL hl ek
    rw [hn, if_pos rfl] at this
    exact this
  rw [s2_oF hs, eC, Option.bind_some, if_pos rfl, g2, Option.bind_some, g3, Option.bind_some, r3, Option.bind_some, w4', li_10, pk_mul, Nat.mul_comm I.length 10, e1, Option.bind_some]
  dsimp only
  rw [g4, Option.bind_some, r4, Option.bind_some, e2, Option.bind_some, g5, Option.bind_some, r5, Option.bind_some, e3, Option.bind_some, g6, Option.bind_some, r6, Option.bind_some, e4, Option.bind_some, g7, Option.bind_some, e5, Option.bind_some]
  unfold F_X2_itemFor_81
  have hs5 := h5.2.2.2.2.2.2.2.1.2.2.2.1
  have g7' : oGA (wI S4 63 I.length (nI (tMade T + 1))) 55 2 7 = some 63 := s2_g7 hs5
  rw [g7', Option.bind_some, show oAI (wI S4 63 I.length (nI (tMade T + 1))) 63 .int (nI I.length) = _ from s2_r7 hs5 (i := I.length) (by omega), Option.bind_some]
  refine ⟨_, ?_, h5, Fm_trans f1 (Fm_trans f2 (Fm_trans f3 (Fm_trans f4 f5))), t5, E5⟩
  rw [show cI ((wI S4 63 I.length (nI (tMade T + 1))).2 (55 + 8)) I.length = nI (tMade T + 1) from v5]
theorem c_itemOld (h : CSr S A R c1 c2) {d v : Nat} (hd : R 1 = some d) (hT : TR S d T) (hE : EB S L I) (hL : ELo L) (hl : L.length ≤ 40) (hk : I.length < L.length) (hn : (enL L I.length).2.1 = some v) : ∃ S', F_X2_itemFor S 55 d (nI I.length) = some (nI (I.getD v 0), S') ∧ CSr S' A R c1 c2 ∧ Fm S S' ∧ TR S' d T ∧ EB S' L (I ++ [I.getD v 0]) := by
  obtain ⟨ek, eklv, eok⟩ := enL_ok hL hk
  have hs := h.2.2.2.2.2.2.2.1.2.2.2.1
  have hdp := (h.2.1.1 1 d (by omega) hd).1
  unfold F_X2_itemFor
  have eC : F_X2_isClone S 55 (nI I.length) = some 1 := by
    have := c_isClone hs hE.1 hL hl ek
    rw [hn, if_neg (by simp)] at this
    exact this
  have g7 : oGA S 55 2 7 = some 63 := s2_g7 hs
  obtain ⟨e5, h5, f5, E5, o5, v5⟩ := c_w63 h hE (by omega) (I.getD v 0)
  rw [s2_oF hs, eC, Option.bind_some, if_neg (by decide), g7, Option.bind_some, c_toClone hs hE hL hl hk rfl hn, Option.bind_some, e5, Option.bind_some]
  unfold F_X2_itemFor_81
  have hs5 := h5.2.2.2.2.2.2.2.1.2.2.2.1
  have g7' : oGA (wI S 63 I.length (nI (I.getD v 0))) 55 2 7 = some 63 := s2_g7 hs5
  rw [g7', Option.bind_some, show oAI (wI S 63 I.length (nI (I.getD v 0))) 63 .int (nI I.length) = _ from s2_r7 hs5 (i := I.length) (by omega), Option.bind_some]
  refine ⟨_, ?_, h5, f5, TR_fr hT (Nat.le_refl _) (fun q a b => o5 q (by omega)), E5⟩
  rw [show cI ((wI S 63 I.length (nI (I.getD v 0))).2 (55 + 8)) I.length = nI (I.getD v 0) from v5]
end CLO
