/-! load: the reference -/
section RLO
variable {S : pS} {m : Nat} {A : As} {L : List Ent} {I : List Nat} {T U : Tr} {item k : Nat}
def GB (S : pS) (m : Nat) (L : List Ent) (I : List Nat) : Prop := RwsG S m L ∧ fI (S.2 m) 54 = nI L.length ∧ ∀ (j : Nat) x, I[j]? = some x → cI (S.2 (m + 40)) j = nI x
def lAr : List Nat := [1, 8, 9, 10, 11, 12, 13]
theorem GB_fr {S1 : pS} {ks : List Nat} {Ls : List Nat} (h : GB S m L I) (hM : MR S S1 m Ls ks) (hL : ∀ j, j ∈ Ls → j ∈ lAr) (hk : 54 ∉ ks) : GB S1 m L I := by
  have a : ∀ j, j ∉ lAr → j ≠ 0 → S1.2 (m + j) = S.2 (m + j) := fun j hj h0 => hM.2.2.2.1 j (fun z => hj (hL j z)) h0
  refine ⟨fun j e he => rowG_fr (h.1 j e he) (fun k a1 a2 => a k (fun z => by unfold lAr at z; simp at z; omega) (by omega)) (a 6 (by decide) (by decide)), by rw [hM.2.2.2.2 54 hk]; exact h.2.1, fun j x hj => by rw [a 40 (by decide) (by decide)]; exact h.2.2 j x hj⟩
theorem r_parentOf (hs : Sh S m sp10) (hG : GB S m L I) (hL : ELo L) (hl : L.length ≤ 40) (hk : k < L.length) (hI : I.length = k) : F_X10_parentOf S m (nI k) (nI item) = some (nI (parE L I k item)) := by
  have ek := enL_ok hL hk
  have w2 : cI (S.2 (m + 33)) k = nI (enL L k).1 := (hG.1 k _ ek.1).1
  have r2 : oAI S (m + 33) .int (nI k) = some (cI (S.2 (m + 33)) k) := s10_r46 hs (by omega)
  unfold F_X10_parentOf
  rw [s10_oF hs, s10_g46 hs, Option.bind_some, r2, Option.bind_some, w2]
  by_cases c0 : (enL L k).1 = 0
  · have ef : fndL L (enL L k).1 k = none := by
      cases e : fndL L (enL L k).1 k with
      | none => rfl
      | some j => have := (fndL_lt k j e).2; omega
    rw [if_neg (show ¬ ¬ nI (enL L k).1 = 0 from fun z => z (by rw [c0]; rfl))]
    unfold parE
    rw [ef]
  · rw [if_pos (nI_n0 c0 (by omega))]
    obtain ⟨jx, hj1, hj2⟩ := lvl_ex hL k hk ((enL L k).1 - 1) (by omega)
    obtain ⟨i, hi⟩ := fnd_ex (L := L) (lv := (enL L k).1) k ⟨jx, hj1, by omega⟩
    have key : ∀ j, j ≤ k → fndL L (enL L k).1 j = some i → ∃ s' n, n ≤ j ∧ Run (F_X10_parentOf_15 m (nI k) S) (nI j - 1) s' n ∧ F_X10_parentOf_15 m (nI k) S s' = some (.inr (nI i)) := by
      intro j
      induction j with
      | zero => intro _ h; cases h
      | succ j ih =>
        intro hj h
        have ej := enL_ok hL (show j < L.length by omega)
        have e0 : F_X10_parentOf_15 m (nI k) S (nI (j + 1) - 1) = if nI (enL L j).1 = nI (enL L k).1 - 1 then some (.inr (nI j)) else some (.inl (nI j - 1)) := by
          have r1 : oAI S (m + 33) .int (nI j) = some (cI (S.2 (m + 33)) j) := s10_r46 hs (by omega)
          have w1 : cI (S.2 (m + 33)) j = nI (enL L j).1 := (hG.1 j _ ej.1).1
          unfold F_X10_parentOf_15
          rw [nI_pred, s10_g46 hs, Option.bind_some, r1, Option.bind_some, Option.bind_some, r2, Option.bind_some, w1, w2, Int32.sub_eq_add_neg (nI j)]
        have eq : fndL L (enL L k).1 (j + 1) = if (enL L j).1 + 1 = (enL L k).1 then some j else fndL L (enL L k).1 j := rfl
        have hlv := lv_eq (a := (enL L j).1) (lv := (enL L k).1) (by omega) (by omega)
        rw [eq] at h
        by_cases c : (enL L j).1 + 1 = (enL L k).1
        · rw [if_pos (hlv.mpr c)] at e0
          rw [if_pos c] at h
          cases h
          exact ⟨_, 0, Nat.zero_le _, Run_0, e0⟩
        · rw [if_neg (fun z => c (hlv.mp z))] at e0
          rw [if_neg c] at h
          obtain ⟨s', n, n1, run, ex⟩ := ih (by omega) h
          exact ⟨s', 1 + n, by omega, Run_t (Run_1 e0) run, ex⟩
    obtain ⟨s', n, n1, run, ex⟩ := key k (Nat.le_refl _) hi
    have hik := (fndL_lt k i hi).1
    have hv := hG.2.2 i (I.getD i 0) (by rw [List.getD_eq_getElem?_getD, List.getElem?_eq_getElem (show i < I.length by omega)]; rfl)
    unfold parE
    rw [hi, Run_end run (by omega) ex, Option.bind_some, s10_g53 hs, Option.bind_some, s10_r53 hs (by omega), Option.bind_some, hv]
/-- an item is written behind the others -/
theorem g_w40 (hs : Sh S m sp10) (hG : GB S m L I) (hk : I.length < 41) (x : Nat) : oSI S (m + 40) .int (nI I.length) (nI x) = some (wI S (m + 40) I.length (nI x)) ∧ MR S (wI S (m + 40) I.length (nI x)) m [40] [] ∧ GB (wI S (m + 40) I.length (nI x)) m L (I ++ [x]) ∧ cI ((wI S (m + 40) I.length (nI x)).2 (m + 40)) I.length = nI x := by
  have mm := MR_I (MR_refl hs [40] []) (j := 40) (by decide) (by decide) (by decide) I.length (nI x)
  have hv := s10_v53 hs I.length (nI x)
  have a : ∀ j, j ≠ 40 → j ≠ 0 → (wI S (m + 40) I.length (nI x)).2 (m + j) = S.2 (m + j) := fun j hj h0 => mm.2.2.2.1 j (by simpa using hj) h0
  refine ⟨s10_w53 hs hk _, mm, ⟨fun j e he => rowG_fr (hG.1 j e he) (fun k a1 a2 => a k (by omega) (by omega)) (a 6 (by decide) (by decide)), by rw [mm.2.2.2.2 54 (by simp)]; exact hG.2.1, fun j y hj => ?_⟩, by rw [hv, pu_at]⟩
  rw [hv]
  have hj2 := (List.getElem?_eq_some_iff.mp hj).1
  rw [List.length_append, List.length_singleton] at hj2
  by_cases z : j = I.length
  · subst z
    rw [List.getElem?_append_right (Nat.le_refl _), Nat.sub_self] at hj
    have : x = y := by simpa using hj
    rw [pu_at, this]
  · rw [List.getElem?_append_left (by omega)] at hj
    rw [pu_ne _ _ _ z]
    exact hG.2.2 j y hj
abbrev ML (S S' : pS) (m : Nat) : Prop := MR S S' m [1, 8, 9, 10, 11, 12, 13, 40] [20]
theorem r_224 {c q : Nat} (hR : RR S m T) (hok : tOk T) (hG : GB S m L I) (hl : L.length ≤ 40) (hk : k < L.length) (hkI : I[k]? = some c) (hq : tPres T q = true) (hl12 : (tKids T q).length < 12) : ∃ S', F_X10_load_224 m (nI item) S (nI k) (nI q) = some (.inl (nI (k + 1), S')) ∧ MR S S' m [1] [] ∧ RR S' m (tPut T q (tKids T q).length c) ∧ GB S' m L I := by
  have hs := hR.1
  have hq61 := tOk_lt hok hq
  unfold F_X10_load_224
  obtain ⟨S1, e1, r1, m1⟩ := r_puts hR hok (k := (tKids T q).length) (c := c) hq (Nat.le_refl _) hl12
  rw [s10_g1 hs, Option.bind_some, li_916, nI_add, s10_r1 hs (by omega), Option.bind_some, r_many hR hq, s10_g53 hs, Option.bind_some, s10_r53 hs (by omega), Option.bind_some, hG.2.2 k c hkI, e1, Option.bind_some, nI_1]
  exact ⟨S1, rfl, m1, r1, GB_fr hG m1 (by decide) (by simp)⟩
theorem flg_f (d : Bool) : (if d = true then (1 : Int32) else 0) = flg d false := by cases d <;> rfl
theorem r_putStep (hR : RR S m T) (hG : GB S m L I) (hL : ELo L) (hl : L.length ≤ 40) (hi : LodI T I item k) (hk : k < L.length) : match stepE L item T I k with
    | .inl s => ∃ S', F_X10_load_38 m (nI item) (nI k, S) = some (.inl (nI (k + 1), S')) ∧ ML S S' m ∧ RR S' m s.1 ∧ GB S' m L s.2
    | .inr q => ∃ S', F_X10_load_38 m (nI item) (nI k, S) = some (.inr (.inl (nI q.1, q.2, S'))) ∧ ML S S' m ∧ q.1 < 40 := by
  obtain ⟨hg, hIl, hIp, hip, hn0⟩ := id hi
  have hok := hg.1
  have hs := hR.1
  obtain ⟨ek, eklv, eok⟩ := enL_ok hL hk
  have hqp := par_pres (L := L) hi
  have h12 := (hok.2.2.2.1 _ hqp).1
  have epar := r_parentOf (item := item) hs hG hL hl hk hIl
  obtain ⟨w33, w39, wn⟩ := hG.1 k _ ek
  unfold stepE
  generalize parE L I k item = q at *
  have hq61 := tOk_lt hok hqp
  have pre : ∀ K, (if ¬ cI (S.2 (m + 39)) k = (-1 : Int32) then ((oGA S m 10 53).bind fun x17 => (oGA S m 10 52).bind fun x19 => (oAI S x19 .int (nI k)).bind fun x21 => (oAI S x17 .int x21).bind fun x23 => F_X10_load_78 m (nI item) S (nI k) (nI q) x23) else (F_X10_load_78 m (nI item) S (nI k) (nI q) (-1 : Int32))) = K → F_X10_load_38 m (nI item) (nI k, S) = K := by
    rintro K rfl
    unfold F_X10_load_38
    rw [s10_g54 hs, Option.bind_some, hG.2.1, if_neg (nI_ge hk (by omega))]
    dsimp only
    rw [epar, Option.bind_some, s10_g52 hs, Option.bind_some, s10_r52 hs (by omega), Option.bind_some]
  subst hIl
  cases es : (enL L I.length).2.1 with
  | none =>
    dsimp only
    rw [es] at w39
    have w39' : cI (S.2 (m + 39)) I.length = -1 := w39
    obtain ⟨⟨fr, a34, a35, afr, atx⟩, w36, w37, w38⟩ := wn es
    obtain ⟨S1, e1, m1, k1⟩ := r_reasonNew hR hok hqp
    have G1 := GB_fr hG m1 (by decide) (by decide)
    have ML1 : ML S S1 m := MR_sub m1 (by decide) (by decide)
    by_cases r0 : reaN T q = 0
    · rw [if_pos r0]
      have hm : tMade T < 60 ∧ (tKids T q).length < 12 := by
        have h60 := hok.2.1
        unfold reaN at r0
        by_cases c : tMade T = 60 ∨ (tKids T q).length = 12
        · rw [if_pos c] at r0; exact absurd r0 (by decide)
        · omega
      have hnm : (enL L I.length).2.2.1.length ≤ 10 ∧ ∀ x, x ∈ (enL L I.length).2.2.1 → 97 ≤ x ∧ x ≤ 122 := ⟨eok.2.2.2.1, eok.2.2.2.2.1⟩
      have R1 : RR S1 m T := MR_RR m1 (by decide) hR
      obtain ⟨S2, e2, m2, v2⟩ := r_makes m1.1 hm.1 R1.2.1
      have G2 := GB_fr G1 m2 (by decide) (by simp)
      obtain ⟨e3, m3, G3, v3⟩ := g_w40 m2.1 G2 (by omega) (tMade T + 1)
      generalize wI S2 (m + 40) I.length (nI (tMade T + 1)) = S3 at *
      have a3 : ∀ j, j ∉ lAr → j ≠ 40 → j ≠ 0 → S3.2 (m + j) = S.2 (m + j) := fun j hj h40 h0 => by rw [m3.2.2.2.1 j (by simpa using h40) h0, m2.2.2.2.1 j (fun z => hj (by rw [List.mem_singleton] at z; rw [z]; decide)) h0, m1.2.2.2.1 j (fun z => hj (by unfold lAr; simp at z ⊢; omega)) h0]
      have row3 : cI (S3.2 (m + 1)) = mkf (cI (S1.2 (m + 1))) (tMade T + 1) := by rw [m3.2.2.2.1 1 (by decide) (by decide)]; exact v2
      obtain ⟨S4, e4, m4, v4⟩ := r_names (i := tMade T + 1) (fr := fr) (nm := (enL L I.length).2.2.1) m3.1 (by omega) hnm.1 afr (fun j x hx => by rw [a3 6 (by decide) (by decide) (by decide)]; exact atx j x hx)
      have hmk := mk_ok hok hm.1 hnm
      have hM : tPres (tMk T (enL L I.length).2.2.1) (tMade T + 1) = true := pu_at _ _ _
      have T4 : RT (cI (S4.2 (m + 1))) (tMk T (enL L I.length).2.2.1) := by rw [v4, row3]; exact RT_make R1.2 hok hm.1 hnm.1
      have a4 : ∀ j, j ∉ lAr → j ≠ 40 → j ≠ 0 → S4.2 (m + j) = S.2 (m + j) := fun j hj h40 h0 => by rw [m4.2.2.2.1 j (fun z => hj (by rw [List.mem_singleton] at z; rw [z]; decide)) h0]; exact a3 j hj h40 h0
      have h40 : cI (S4.2 (m + 40)) I.length = nI (tMade T + 1) := by rw [m4.2.2.2.1 40 (by decide) (by decide)]; exact v3
      -- the day
      have m5 := MR_I (MR_refl m4.1 [1] []) (j := 1) (by decide) (by decide) (by decide) (123 + (tMade T + 1)) (enL L I.length).2.2.2.1
      have v5 := s10_v1 m4.1 (123 + (tMade T + 1)) (enL L I.length).2.2.2.1
      have e5 := s10_w1 m4.1 (i := 123 + (tMade T + 1)) (by omega) (enL L I.length).2.2.2.1
      generalize wI S4 (m + 1) (123 + (tMade T + 1)) (enL L I.length).2.2.2.1 = S5 at *
      have T5 : RT (cI (S5.2 (m + 1))) (tSetD (tMk T (enL L I.length).2.2.1) (tMade T + 1) (enL L I.length).2.2.2.1) := by rw [v5]; exact RT_setD T4 hmk hM _
      -- the value
      have m6 := MR_I (MR_refl m5.1 [1] []) (j := 1) (by decide) (by decide) (by decide) (62 + (tMade T + 1)) (enL L I.length).2.2.2.2.1
      have v6 := s10_v1 m5.1 (62 + (tMade T + 1)) (enL L I.length).2.2.2.2.1
      have e6 := s10_w1 m5.1 (i := 62 + (tMade T + 1)) (by omega) (enL L I.length).2.2.2.2.1
      generalize wI S5 (m + 1) (62 + (tMade T + 1)) (enL L I.length).2.2.2.2.1 = S6 at *
      have T6 : RT (cI (S6.2 (m + 1))) (tSetV (tSetD (tMk T (enL L I.length).2.2.1) (tMade T + 1) (enL L I.length).2.2.2.1) (tMade T + 1) (enL L I.length).2.2.2.2.1) := by
        rw [v6]
        exact RT_setV (T := tSetD (tMk T (enL L I.length).2.2.1) (tMade T + 1) (enL L I.length).2.2.2.1) T5 hmk (i := tMade T + 1) hM _
      -- done
      have m7 := MR_I (MR_refl m6.1 [1] []) (j := 1) (by decide) (by decide) (by decide) (184 + (tMade T + 1)) (if (enL L I.length).2.2.2.2.2 = true then 1 else 0)
      have v7 := s10_v1 m6.1 (184 + (tMade T + 1)) (if (enL L I.length).2.2.2.2.2 = true then 1 else 0)
      have e7 := s10_w1 m6.1 (i := 184 + (tMade T + 1)) (by omega) (if (enL L I.length).2.2.2.2.2 = true then 1 else 0)
      generalize wI S6 (m + 1) (184 + (tMade T + 1)) (if (enL L I.length).2.2.2.2.2 = true then 1 else 0) = S7 at *
      have T7 : RT (cI (S7.2 (m + 1))) (tEnt T (enL L I.length)) := by
        rw [v7]
        refine RT_setG (T := tSetV (tSetD (tMk T (enL L I.length).2.2.1) (tMade T + 1) (enL L I.length).2.2.2.1) (tMade T + 1) (enL L I.length).2.2.2.2.1) T6 hmk (i := tMade T + 1) hM (T' := tEnt T (enL L I.length)) rfl rfl rfl rfl rfl rfl ?_ (fun x hx => ⟨?_, rfl⟩)
        · have d1 : tDone (tEnt T (enL L I.length)) (tMade T + 1) = (enL L I.length).2.2.2.2.2 := pu_at _ _ _
          have d2 : tFold (tEnt T (enL L I.length)) (tMade T + 1) = false := pu_at _ _ _
          rw [d1, d2]
          exact flg_f _
        · exact pu_ne _ _ _ hx
      have m47 : MR S3 S7 m [1] [] := MR_trans m4 (MR_trans m5 (MR_trans m6 m7))
      have G7 := GB_fr G3 m47 (by decide) (by simp)
      obtain ⟨S8, e8, m8, R8, G8⟩ := r_224 (item := item) (T := tEnt T (enL L I.length)) (c := tMade T + 1) (q := q) ⟨m7.1, T7⟩ hmk G7 hl hk (by rw [List.getElem?_append_right (Nat.le_refl _), Nat.sub_self]; rfl) (mk_pres hok (enL L I.length).2.2.1 hqp) (show (tKids (tMk T (enL L I.length).2.2.1) q).length < 12 by rw [mk_kids hok _ hqp]; exact hm.2)
      have hkk : tKids (tEnt T (enL L I.length)) q = tKids T q := mk_kids hok (enL L I.length).2.2.1 hqp
      rw [hkk] at R8
      have c4 : cI (S5.2 (m + 40)) I.length = nI (tMade T + 1) := by rw [m5.2.2.2.1 40 (by decide) (by decide)]; exact h40
      have c6 : cI (S6.2 (m + 40)) I.length = nI (tMade T + 1) := by rw [m6.2.2.2.1 40 (by decide) (by decide)]; exact c4
      refine ⟨S8, pre _ ?_, MR_trans ML1 (MR_trans (MR_sub m2 (by decide) (by simp)) (MR_trans (MR_sub m3 (by decide) (by simp)) (MR_trans (MR_sub m47 (by decide) (by simp)) (MR_sub m8 (by decide) (by simp))))), R8, G8⟩
      rw [w39', if_neg (fun z => z rfl)]
      unfold F_X10_load_78
      rw [e1, Option.bind_some]
      dsimp only
      rw [if_pos ((reaN_le _ _).mpr r0), s10_g53 m1.1, Option.bind_some, if_neg (fun z => z rfl), e2, Option.bind_some]
      dsimp only
      unfold F_X10_load_134
      rw [e3, Option.bind_some, if_neg (fun z => z rfl), s10_g53 m3.1, Option.bind_some, s10_r53 m3.1 (by omega), Option.bind_some, v3, s10_g47 m3.1, Option.bind_some, s10_r47 m3.1 (by omega), Option.bind_some, a3 34 (by decide) (by decide) (by decide), a34, s10_g48 m3.1, Option.bind_some, s10_r48 m3.1 (by omega), Option.bind_some, a3 35 (by decide) (by decide) (by decide), a35, e4, Option.bind_some, s10_g1 m4.1, Option.bind_some, s10_g53 m4.1, Option.bind_some, s10_r53 m4.1 (by omega), Option.bind_some, h40, s10_g49 m4.1, Option.bind_some, s10_r49 m4.1 (by omega), Option.bind_some, a4 36 (by decide) (by decide) (by decide), w36, li_123, nI_add, e5, Option.bind_some, s10_g1 m5.1, Option.bind_some, s10_g53 m5.1, Option.bind_some, s10_r53 m5.1 (by omega), Option.bind_some, c4, s10_g50 m5.1, Option.bind_some, s10_r50 m5.1 (by omega), Option.bind_some, m5.2.2.2.1 37 (by decide) (by decide), a4 37 (by decide) (by decide) (by decide), w37, li_62, nI_add, e6, Option.bind_some, s10_g1 m6.1, Option.bind_some, s10_g53 m6.1, Option.bind_some, s10_r53 m6.1 (by omega), Option.bind_some, c6, s10_g51 m6.1, Option.bind_some, s10_r51 m6.1 (by omega), Option.bind_some, m6.2.2.2.1 38 (by decide) (by decide), m5.2.2.2.1 38 (by decide) (by decide), a4 38 (by decide) (by decide) (by decide), w38, li_184, nI_add, e7, Option.bind_some, e8]
    · rw [if_neg r0]
      refine ⟨S1, pre _ ?_, ML1, by show I.length < 40; omega⟩
      rw [w39', if_neg (fun z => z rfl)]
      unfold F_X10_load_78
      rw [e1, Option.bind_some]
      dsimp only
      rw [if_neg (fun z => r0 ((reaN_le _ _).mp z))]
  | some v =>
    dsimp only
    have hv := eok.2.1 v es
    have hcm := hIp _ (getD_mem (I := I) (j := v) hv)
    rw [es] at w39
    have w39' : cI (S.2 (m + 39)) I.length = nI v := w39
    have hIv : cI (S.2 (m + 40)) v = nI (I.getD v 0) := hG.2.2 v _ (by rw [List.getD_eq_getElem?_getD, List.getElem?_eq_getElem hv]; rfl)
    generalize I.getD v 0 = c at *
    have hc61 := tOk_lt hok hcm.1
    obtain ⟨S1, e1, m1, k1⟩ := r_reason hR hok hqp hcm.1
    have G1 := GB_fr hG m1 (by decide) (by decide)
    have ML1 : ML S S1 m := MR_sub m1 (by decide) (by decide)
    have hpre : F_X10_load_38 m (nI item) (nI I.length, S) = F_X10_load_78 m (nI item) S (nI I.length) (nI q) (nI c) := by
      refine pre _ ?_
      rw [w39', if_pos (nI_nm1 (by omega)), s10_g53 hs, Option.bind_some, s10_g52 hs, Option.bind_some, s10_r52 hs (by omega), Option.bind_some, w39', s10_r53 hs (by omega), Option.bind_some, hIv]
    unfold F_X10_load_78 at hpre
    rw [e1, Option.bind_some] at hpre
    dsimp only at hpre
    by_cases r0 : reaC T c q = 0
    · rw [if_pos r0]
      obtain ⟨b1, b2, b3, b4⟩ := reaC_0 hok hqp r0
      obtain ⟨e3, m3, G3, v3⟩ := g_w40 m1.1 G1 (by omega) c
      have R3 : RR (wI S1 (m + 40) I.length (nI c)) m T := MR_RR m3 (by decide) (MR_RR m1 (by decide) hR)
      obtain ⟨S8, e8, m8, R8, G8⟩ := r_224 (item := item) (c := c) (q := q) R3 hok G3 hl hk (by rw [List.getElem?_append_right (Nat.le_refl _), Nat.sub_self]; rfl) hqp b1
      refine ⟨S8, hpre.trans ?_, MR_trans ML1 (MR_trans (MR_sub m3 (by decide) (by simp)) (MR_sub m8 (by decide) (by simp))), R8, G8⟩
      rw [if_pos ((reaC_le _ _ _).mpr r0), s10_g53 m1.1, Option.bind_some, if_pos (nI_nm1 (by omega))]
      unfold F_X10_load_134
      rw [e3, Option.bind_some, if_pos (nI_nm1 (by omega)), e8]
    · rw [if_neg r0]
      refine ⟨S1, hpre.trans ?_, ML1, by show I.length < 40; omega⟩
      rw [if_neg (fun z => r0 ((reaC_le _ _ _).mp z))]
end RLO
