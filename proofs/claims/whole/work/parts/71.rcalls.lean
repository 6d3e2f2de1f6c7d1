/-! calls, purely: the state behind, what is thrown (0: nothing), the answer; and the reference's -/
abbrev Rs : Type := As × Int32 × Int32
def ixN (x : Int32) (n : Nat) : Option Nat := if ¬ x < 0 ∧ ¬ nI n ≤ x then some x.toNatClampNeg else none
def itN (T : Tr) (x : Int32) : Option Nat := if itm T x = true then some x.toNatClampNeg else none
theorem ixN_c (x : Int32) {n : Nat} (hn : n < 2 ^ 31) : (∃ j, j < n ∧ x = nI j ∧ ixN x n = some j) ∨ (ixN x n = none ∧ (x < 0 ∨ nI n ≤ x)) := by
  unfold ixN
  rcases pk_ix x hn with h | h | ⟨j, hj, rfl⟩
  · exact Or.inr ⟨if_neg (fun z => z.1 h), Or.inl h⟩
  · exact Or.inr ⟨if_neg (fun z => z.2 h), Or.inr h⟩
  · refine Or.inl ⟨j, hj, rfl, ?_⟩
    rw [if_pos ⟨nI_pos (by omega), nI_ge hj hn⟩, nI_clamp (by omega)]
theorem itN_c {T : Tr} (hT : tOk T) (x : Int32) : (∃ i, i < 61 ∧ x = nI i ∧ tPres T i = true ∧ itN T x = some i ∧ itm T x = true) ∨ (itN T x = none ∧ itm T x = false) := by
  unfold itN
  cases e : itm T x
  · exact Or.inr ⟨rfl, rfl⟩
  · obtain ⟨i, h1, h2, h3⟩ := itm_of e
    refine Or.inl ⟨i, h1, h2, h3, ?_, rfl⟩
    rw [if_pos rfl, h2, nI_clamp (by omega)]
theorem in_ix (S : pS) (x : Int32) {n : Nat} (hn : n < 2 ^ 31) : F_X10_in S x (0 : Int32) (nI n - 1) = some (if (ixN x n).isSome = true then (1 : Int32) else 0) := by
  rw [in_eq]
  rcases ixN_c x hn with ⟨j, hj, rfl, e⟩ | ⟨e, h⟩
  · obtain ⟨u, rfl⟩ : ∃ u, n = u + 1 := ⟨n - 1, by omega⟩
    rw [e, nI_pred, if_pos ⟨nI_pos (by omega), nI_nlt (by omega) (by omega)⟩]; rfl
  · rw [e]
    rw [if_neg]
    · rfl
    · rintro ⟨z1, z2⟩
      rcases h with h | h
      · exact z1 h
      · obtain ⟨j, hj, rfl⟩ := nI_of z1
        have hnj : n ≤ j := (nI_leI hn hj).mp h
        cases n with
        | zero => exact z2 (by
            show nI 0 - 1 < nI j
            have : nI 0 - 1 = -1 := rfl
            rw [this, Int32.lt_iff_toInt_lt, nI_toInt hj]
            have : (-1 : Int32).toInt = -1 := by decide
            omega)
        | succ u =>
          rw [nI_pred] at z2
          exact z2 (nI_lt (by omega) hj)
theorem in_gap (S : pS) (x : Int32) {n : Nat} (hn : n + 1 < 2 ^ 31) : F_X10_in S x (0 : Int32) (nI n) = some (if (ixN x (n + 1)).isSome = true then (1 : Int32) else 0) := by
  have := in_ix S x hn
  rw [nI_pred] at this
  exact this
def rC (S : pS) (m : Nat) (o : Option (Int32 × pS)) (r : Rs) : Prop := ∃ b S', o = some (b, S') ∧ RS S' m r.1 ∧ Bk S S' m 41 ∧ fI (S'.2 m) 0 = r.2.1 ∧ (r.2.1 = 0 → b = r.2.2)
/-- the item that is hoisted -/
def topH (H : List Nat) : Nat := H.getLast?.getD 0
def stClear (A : As) : Rs := ((tNew, aSv A, [], [], aTx A, aEr A, aCh A, []), 0, nI (cntB (tPres (aT A))))
def stUndo (A : As) : Rs := match (aHi A).getLast? with
  | none => (A, 1, 0)
  | some U => (aSetHo (aSetHi (aSetT A U) (aHi A).dropLast) (chkH U (aHo A)), 0, nI ((aHi A).length - 1))
def stSnap (A : As) : Rs := (aSetSv A (some (aT A)), 0, nI (cntB (tPres (aT A))))
def stRestore (A : As) : Rs := match aSv A with
  | none => (A, 1, 0)
  | some U => (aSetHo (aSetHi (aSetT A U) []) (chkH U (aHo A)), 0, nI (cntB (tPres U)))
def stHoist (A : As) (x : Int32) : Rs := match itN (aT A) x with
  | none => (A, 1, 0)
  | some i => if (aHo A).length = 4 then (A, 2, 0) else (aSetHo A (aHo A ++ [i]), 0, nI ((aHo A).length + 1))
def stUnhoist (A : As) : Rs := if aHo A = [] then (A, 1, 0) else (aSetHo A (aHo A).dropLast, 0, nI (topH (aHo A).dropLast))
def stErr (A : As) : Rs := match aEr A with
  | none => (A, 1, 0)
  | some e => (A, 0, nI e)
def stRefusal (A : As) (x : Int32) : Rs := if aCh A = [] then (A, 1, 0) else match ixN x (aCh A).length with
  | none => (A, 2, 0)
  | some j => (A, 0, (aCh A).getD j 0)
def stRelated (A : As) (x y p : Int32) : Rs := match itN (aT A) x with
  | none => (A, 1, 0)
  | some i => if p ≠ 0 then (match ixN y (par (aT A) i).length with
    | none => (A, 2, 0)
    | some j => (A, 0, nI ((par (aT A) i).getD j 0))) else (match ixN y (tKids (aT A) i).length with
    | none => (A, 2, 0)
    | some j => (A, 0, nI ((tKids (aT A) i).getD j 0)))
def stLetter (A : As) (x y : Int32) : Rs := if x = 0 then (A, 1, 0) else match itN (aT A) x with
  | none => (A, 1, 0)
  | some i => match ixN y (tName (aT A) i).length with
    | none => (A, 2, 0)
    | some j => (A, 0, (tName (aT A) i).getD j 0)
def stBelow (A : As) (x y : Int32) : Rs := match itN (aT A) x with
  | none => (A, 1, 0)
  | some i => match itN (aT A) y with
    | none => (A, 1, 0)
    | some j => (A, 0, if lb (belT (aT A) j) i = true then 1 else 0)
def stSetNum (A : As) (x d n : Int32) : Rs := match itN (aT A) x with
  | none => (A, 1, 0)
  | some i => if d = 0 then (if n < -999 ∨ 999 < n then (A, 2, 0) else (aKeep A (tSetV (aT A) i n), 0, tVal (aT A) i)) else (if n < -1 ∨ 9999 < n then (A, 2, 0) else (aKeep A (tSetD (aT A) i n), 0, tDay (aT A) i))
def stSetFlag (A : As) (x d n : Int32) : Rs := match itN (aT A) x with
  | none => (A, 1, 0)
  | some i => if d = 0 then (aKeep A (tSetX (aT A) i (decide (n ≠ 0))), 0, if tDone (aT A) i = true then 1 else 0) else (aKeep A (tSetF (aT A) i (decide (n ≠ 0))), 0, if tFold (aT A) i = true then 1 else 0)
section RCA
variable {S : pS} {m : Nat} {T : Tr} {A : As}
theorem Bk_MR {S S' : pS} {m : Nat} {L ks : List Nat} (h : MR S S' m L ks) : Bk S S' m 41 := ⟨h.2.1, h.2.2.1⟩
theorem r_start (h : RS S m A) (v : Int32) : ∃ S1, oPI S m 10 0 v = some S1 ∧ RS S1 m A ∧ MR S S1 m [] [0] ∧ fI (S1.2 m) 0 = v := by
  have hs := s10_k0 h.1.1 h.1.1 v
  have m1 := r_setF h.1.1 v hs
  exact ⟨_, s10_p0 h.1.1 v, RS_fr h m1 (by decide) (by decide) (by decide), m1, s10_v0 h.1.1 v⟩
theorem r_fails (h : RS S m A) (v : Int32) : ∃ S1, F_X10_fails S m v = some (0, S1) ∧ RS S1 m A ∧ MR S S1 m [] [0] ∧ fI (S1.2 m) 0 = v := by
  obtain ⟨S1, e, h1, h2, h3⟩ := r_start h v
  refine ⟨S1, ?_, h1, h2, h3⟩
  unfold F_X10_fails
  rw [s10_oF h.1.1, e, Option.bind_some]
theorem rC_fail {S0 : pS} (hb : Bk S0 S m 41) (h : RS S m A) (v w : Int32) (hv : v ≠ 0) : rC S0 m ((F_X10_fails S m v).bind fun q => some (q.1, q.2)) (A, v, w) := by
  obtain ⟨S1, e, h1, h2, h3⟩ := r_fails h v
  rw [e, Option.bind_some]
  exact ⟨_, _, rfl, h1, Bk_trans hb (Bk_MR h2), h3, fun z => absurd z hv⟩
theorem r_empties (h : Sh S m sp10) : ∃ S', F_X10_empties S m = some S' ∧ MR S S' m [1] [] ∧ RT (cI (S'.2 (m + 1))) tNew := by
  unfold F_X10_empties
  rw [s10_oF h]
  obtain ⟨S1, e, m1, z1⟩ := iter_fu (F := F_X10_empties_2 m) (s := ((0 : Int32), S)) (fun i s => s.1 = nI i ∧ MR S s.2 m [1] [] ∧ ∀ j, j < i → cI (s.2.2 (m + 1)) j = 0) (P := fun S' => MR S S' m [1] [] ∧ ∀ j, j < 1709 → cI (S'.2 (m + 1)) j = 0) 1709 (by decide) ⟨rfl, MR_refl h _ _, fun j hj => absurd hj (Nat.not_lt_zero _)⟩
    (by
      rintro ⟨b, S1⟩ ⟨h1, h2, h3⟩
      dsimp only at h1 h2 h3
      subst h1
      unfold F_X10_empties_2
      rw [if_pos le1709]
      exact ⟨_, rfl, h2, h3⟩)
    (by
      rintro i ⟨b, S1⟩ hi ⟨h1, h2, h3⟩
      dsimp only at h1 h2 h3
      subst h1
      unfold F_X10_empties_2
      rw [if_neg (ge1709 hi), s10_g1 h2.1, Option.bind_some, s10_w1 h2.1 hi, Option.bind_some, nI_1]
      refine ⟨_, rfl, rfl, MR_I h2 (by simp) (by decide) (by decide) _ _, fun j hj => ?_⟩
      dsimp only
      rw [s10_v1 h2.1]
      by_cases c : j = i
      · rw [c, pu_at]
      · rw [pu_ne _ _ _ c]; exact h3 j (by omega))
  rw [e, Option.bind_some, s10_g1 m1.1, Option.bind_some]
  have e1 : oSI S1 (m + 1) .int (1 : Int32) 1 = some (wI S1 (m + 1) 1 1) := s10_w1 m1.1 (i := 1) (by decide) 1
  rw [e1, Option.bind_some]
  have x2 := sh_wI m1.1 (m + 1) 1 1
  have v2 := s10_v1 m1.1 1 1
  have m2 : MR S (wI S1 (m + 1) 1 1) m [1] [] := MR_I m1 (by simp) (by decide) (by decide) _ _
  generalize wI S1 (m + 1) 1 1 = S2 at *
  rw [s10_g1 x2, Option.bind_some]
  have e3 : oSI S2 (m + 1) .int (123 : Int32) (-1) = some (wI S2 (m + 1) 123 (-1)) := s10_w1 x2 (i := 123) (by decide) (-1)
  rw [e3, Option.bind_some]
  refine ⟨_, rfl, MR_I m2 (by simp) (by decide) (by decide) _ _, ?_⟩
  rw [s10_v1 x2, v2]
  have hz : ∀ j, j < 1709 → j ≠ 1 → j ≠ 123 → pu (pu (cI (S1.2 (m + 1))) 1 1) 123 (-1) j = 0 := fun j hj h1 h2 => by rw [pu_ne _ _ _ h2, pu_ne _ _ _ h1]; exact z1 j hj
  refine ⟨hz 0 (by decide) (by decide) (by decide), fun i hi => ?_, fun i hi => ?_⟩
  · show _ = if decide (i = 0) = true then 1 else 0
    by_cases c : i = 0
    · subst c
      rw [if_pos (by decide), pu_ne _ _ _ (by decide), pu_at]
    · rw [if_neg (by simpa using c)]
      exact hz _ (by omega) (by omega) (by omega)
  · have : i = 0 := of_decide_eq_true hi
    subst this
    refine ⟨hz _ (by decide) (by decide) (by decide), pu_at _ _ _, hz _ (by decide) (by decide) (by decide), hz _ (by decide) (by decide) (by decide), fun k x hx => ?_, hz _ (by decide) (by decide) (by decide), fun k c hc => ?_⟩
    · have hx' : ([] : List Int32)[k]? = some x := hx
      simp at hx'
    · have hc' : ([] : List Nat)[k]? = some c := hc
      simp at hc'
theorem r_clear (h : RS S m A) (hA : aOk A) : rC S m (F_X10_clear S m) (stClear A) := by
  unfold F_X10_clear
  obtain ⟨S1, e1, h1, m1, t1⟩ := r_start h 0
  rw [s10_oF h.1.1, e1, Option.bind_some, r_items h1.1 hA.1.1, Option.bind_some]
  obtain ⟨S2, e2, m2, r2⟩ := r_empties h1.1.1
  rw [e2, Option.bind_some, s10_p5 m2.1, Option.bind_some]
  have k3 := s10_k5 m2.1 m2.1 0
  have v3 := s10_v5 m2.1 0
  have m3 := r_setF m2.1 0 k3
  generalize wF S2 m 5 (.int 0) = S3 at *
  rw [s10_p8 k3, Option.bind_some]
  have k4 := s10_k8 k3 k3 0
  have v4 := s10_v8 k3 0
  have m4 := r_setF k3 0 k4
  generalize wF S3 m 8 (.int 0) = S4 at *
  rw [s10_p30 k4, Option.bind_some]
  have k5 := s10_k30 k4 k4 0
  have v5 := s10_v30 k4 0
  have m5 := r_setF k4 0 k5
  generalize wF S4 m 30 (.int 0) = S5 at *
  have mm : MR S1 S5 m [1] [5, 8, 30] := MR_trans (MR_sub m2 (by decide) (by decide)) (MR_trans (MR_sub m3 (by decide) (by decide)) (MR_trans (MR_sub m4 (by decide) (by decide)) (MR_sub m5 (by decide) (by decide))))
  obtain ⟨x1, x2, x3, x4, x5, x6, x7, x8, x9, x10, x11, x12, x13⟩ := h1.2
  have f : ∀ k, k ∉ [5, 8, 30] → fI (S5.2 m) k = fI (S1.2 m) k := fun k hk => mm.2.2.2.2 k hk
  have a : ∀ j, j ≠ 1 → j ≠ 0 → S5.2 (m + j) = S1.2 (m + j) := fun j hj h0 => mm.2.2.2.1 j (by simpa using hj) h0
  refine ⟨_, _, rfl, ⟨⟨k5, ?_⟩, ?_⟩, Bk_trans (Bk_MR m1) (Bk_MR mm), by rw [f 0 (by decide)]; exact t1, fun _ => rfl⟩
  · rw [m5.2.2.2.1 1 (by simp) (by decide), m4.2.2.2.1 1 (by simp) (by decide), m3.2.2.2.1 1 (by simp) (by decide)]
    exact r2
  · unfold RX
    rw [f 6 (by decide), f 10 (by decide), f 11 (by decide), f 13 (by decide), a 2 (by decide) (by decide), a 6 (by decide) (by decide), a 7 (by decide) (by decide)]
    refine ⟨?_, fun k U hk => ?_, x3, x4, ?_, fun k i hk => ?_, x7, x8, x9, x10, x11, v5, fun c q hc => ?_⟩
    · rw [m5.2.2.2.2 5 (by decide), m4.2.2.2.2 5 (by decide)]; exact v3
    · have hk' : ([] : List Tr)[k]? = some U := hk
      simp at hk'
    · rw [m5.2.2.2.2 8 (by decide)]; exact v4
    · have hk' : ([] : List Nat)[k]? = some i := hk
      simp at hk'
    · have hc' : ([] : List Cnd)[c]? = some q := hc
      simp at hc'
/-- behind an undo or a restore -/
theorem rr_back {S1 : pS} {U : Tr} {hi : List Tr} (hX : RX S m A) (m1 : MR S S1 m [1] [5]) (hR : RT (cI (S1.2 (m + 1))) U) (hU : tOk U) (hA : aOk A) (hn : fI (S1.2 m) 5 = nI hi.length) (hh : ∀ (k : Nat) (V : Tr), hi[k]? = some V → (aHi A)[k]? = some V) : ∃ S', F_X10_checksHoists S1 m = some S' ∧ MR S S' m [1] [5, 8] ∧ RS S' m (aSetHo (aSetHi (aSetT A U) hi) (chkH U (aHo A))) ∧ fI (S'.2 m) 5 = nI hi.length := by
  obtain ⟨x1, x2, x3, x4, x5, x6, x7, x8, x9, x10, x11, x12, x13⟩ := hX
  obtain ⟨S3, e3, m3, n3⟩ := r_checksHoists (T := U) (H := aHo A) ⟨m1.1, hR⟩ hU hA.2.2.2.2.1 (by rw [m1.2.2.2.2 8 (by decide)]; exact x5) (fun k i hk => by rw [m1.2.2.2.1 5 (by decide) (by decide)]; exact x6 k i hk) (fun i hi => tOk_lt hA.1.1 (hA.2.2.2.2.2.1 i hi))
  have mm : MR S S3 m [1] [5, 8] := MR_trans (MR_sub m1 (by decide) (by decide)) (MR_sub m3 (by decide) (by decide))
  have f : ∀ k, k ∉ [5, 8] → fI (S3.2 m) k = fI (S.2 m) k := fun k hk => mm.2.2.2.2 k hk
  have a : ∀ j, j ≠ 1 → j ≠ 0 → S3.2 (m + j) = S.2 (m + j) := fun j hj h0 => mm.2.2.2.1 j (by simpa using hj) h0
  have f5 : fI (S3.2 m) 5 = nI hi.length := by rw [m3.2.2.2.2 5 (by decide)]; exact hn
  refine ⟨S3, e3, mm, ⟨⟨m3.1, ?_⟩, ?_⟩, f5⟩
  · rw [m3.2.2.2.1 1 (by simp) (by decide)]; exact hR
  · unfold RX
    rw [f 6 (by decide), f 10 (by decide), f 11 (by decide), f 13 (by decide), f 30 (by decide), a 2 (by decide) (by decide), a 4 (by decide) (by decide), a 5 (by decide) (by decide), a 6 (by decide) (by decide), a 7 (by decide) (by decide), a 15 (by decide) (by decide), a 16 (by decide) (by decide), a 17 (by decide) (by decide), a 18 (by decide) (by decide), a 19 (by decide) (by decide)]
    exact ⟨f5, fun k V hk => x2 k V (hh k V hk), x3, x4, n3, hoist_ok x6, x7, x8, x9, x10, x11, x12, x13⟩
theorem r_undo (h : RS S m A) (hA : aOk A) : rC S m (F_X10_undo S m) (stUndo A) := by
  unfold F_X10_undo stUndo
  obtain ⟨S1, e1, h1, m1, t1⟩ := r_start h 0
  rw [s10_oF h.1.1, e1, Option.bind_some, s10_g5 h1.1.1, Option.bind_some, h1.2.1]
  have hl := hA.2.2.2.1
  cases e : (aHi A).getLast? with
  | none =>
    rw [List.getLast?_eq_none_iff] at e
    rw [if_neg (fun z => z (by rw [e]; rfl))]
    exact rC_fail (Bk_MR m1) h1 1 0 (by decide)
  | some U =>
    have hne : aHi A ≠ [] := fun z => by rw [z] at e; cases e
    have hlen : 0 < (aHi A).length := List.length_pos_iff.mpr hne
    obtain ⟨u, hu⟩ : ∃ u, (aHi A).length = u + 1 := ⟨(aHi A).length - 1, by omega⟩
    have hUu : (aHi A)[u]? = some U := by rw [List.getLast?_eq_getElem?, hu] at e; exact e
    have hU := (hA.2.2.1 U (List.mem_of_getElem? hUu)).1
    rw [if_pos (nI_n0 (by omega) (by omega)), Option.bind_some, hu, nI_pred, s10_p5 h1.1.1, Option.bind_some]
    have k2 := s10_k5 h1.1.1 h1.1.1 (nI u)
    have v2 := s10_v5 h1.1.1 (nI u)
    have m2 := r_setF h1.1.1 (nI u) k2
    generalize wF S1 m 5 (.int (nI u)) = S2 at *
    obtain ⟨S3, e3, m3, c3, o3⟩ := row_copy (F := F_X10_undo_30 m) (S := S2) (m := m) (e := 1709) (src := 4) (dst := 1) (fs := fun i => 1709 * u + i) (fd := fun i => i) k2 (by decide) (by decide) (by decide) (fun S2 hs i v => s10_v1 hs i v) (fun i i' _ h => by omega) (fun i i' _ _ z => absurd z (by decide)) (by decide)
      (fun i S3 hi hs hfk => by
        unfold F_X10_undo_30
        rw [if_neg (ge1709 hi), s10_g1 hs, Option.bind_some, s10_g4 hs, Option.bind_some, s10_g5 hs, Option.bind_some, hfk 5, v2]
        dsimp only
        rw [li_1709, pk_mul, nI_add, s10_r4 hs (by omega), Option.bind_some, s10_w1 hs hi, Option.bind_some, nI_1])
      (fun S2 hs => by unfold F_X10_undo_30; rw [if_pos le1709])
    rw [e3, Option.bind_some]
    have m13 : MR S1 S3 m [1] [5] := MR_trans (MR_sub m2 (by decide) (by decide)) (MR_sub m3 (by decide) (by decide))
    have hRT : RT (cI (S3.2 (m + 1))) U := by
      refine RT_eq (h1.2.2.1 u U hUu) hU (fun j hj => ?_)
      have := c3 j hj
      rw [m2.2.2.2.1 4 (by simp) (by decide)] at this
      exact this
    have hdl : (aHi A).dropLast.length = u := by rw [List.length_dropLast, hu]; rfl
    obtain ⟨S4, e4, m4, r4, f4⟩ := rr_back (hi := (aHi A).dropLast) h1.2 m13 hRT hU hA (by rw [m3.2.2.2.2 5 (by simp), hdl]; exact v2) (fun k V hk => by
      have hk2 := (List.getElem?_eq_some_iff.mp hk).1
      rw [List.getElem?_dropLast] at hk
      rw [hdl] at hk2
      rw [if_pos (by omega)] at hk
      exact hk)
    rw [e4, Option.bind_some, s10_g5 m4.1, Option.bind_some]
    refine ⟨_, _, rfl, r4, Bk_trans (Bk_MR m1) (Bk_MR m4), by rw [m4.2.2.2.2 0 (by decide)]; exact t1, fun _ => ?_⟩
    rw [f4, hdl]
    show nI u = nI (u + 1 - 1)
    rfl
theorem r_snapshot (h : RS S m A) (hA : aOk A) : rC S m (F_X10_snapshot S m) (stSnap A) := by
  unfold F_X10_snapshot stSnap
  obtain ⟨S1, e1, h1, m1, t1⟩ := r_start h 0
  rw [s10_oF h.1.1, e1, Option.bind_some]
  obtain ⟨S3, e3, m3, c3, o3⟩ := row_copy (F := F_X10_snapshot_7 m) (S := S1) (m := m) (e := 1709) (src := 1) (dst := 2) (fs := fun i => i) (fd := fun i => i) h1.1.1 (by decide) (by decide) (by decide) (fun S2 hs i v => s10_v2 hs i v) (fun i i' _ h => by omega) (fun i i' _ _ z => absurd z (by decide)) (by decide)
    (fun i S3 hi hs hfk => by
      unfold F_X10_snapshot_7
      rw [if_neg (ge1709 hi), s10_g2 hs, Option.bind_some, s10_g1 hs, Option.bind_some, s10_r1 hs hi, Option.bind_some, s10_w2 hs hi, Option.bind_some, nI_1])
    (fun S2 hs => by unfold F_X10_snapshot_7; rw [if_pos le1709])
  rw [e3, Option.bind_some, s10_q6 m3.1 (Or.inr rfl), Option.bind_some]
  have k4 := s10_k6 m3.1 m3.1 1
  have v4 := s10_v6 m3.1 1
  have m4 := r_setF m3.1 1 k4
  generalize wF S3 m 6 (.int 1) = S4 at *
  have mm : MR S1 S4 m [2] [6] := MR_trans (MR_sub m3 (by decide) (by decide)) (MR_sub m4 (by decide) (by decide))
  have hR4 := MR_RR mm (by decide) h1.1
  rw [r_items hR4 hA.1.1, Option.bind_some]
  obtain ⟨x1, x2, x3, x4, x5, x6, x7, x8, x9, x10, x11, x12, x13⟩ := h1.2
  have f : ∀ k, k ∉ [6] → fI (S4.2 m) k = fI (S1.2 m) k := fun k hk => mm.2.2.2.2 k hk
  have a : ∀ j, j ≠ 2 → j ≠ 0 → S4.2 (m + j) = S1.2 (m + j) := fun j hj h0 => mm.2.2.2.1 j (by simpa using hj) h0
  refine ⟨_, _, rfl, ⟨hR4, ?_⟩, Bk_trans (Bk_MR m1) (Bk_MR mm), by rw [f 0 (by decide)]; exact t1, fun _ => rfl⟩
  unfold RX
  rw [f 5 (by decide), f 8 (by decide), f 10 (by decide), f 11 (by decide), f 13 (by decide), f 30 (by decide), a 4 (by decide) (by decide), a 5 (by decide) (by decide), a 6 (by decide) (by decide), a 7 (by decide) (by decide), a 15 (by decide) (by decide), a 16 (by decide) (by decide), a 17 (by decide) (by decide), a 18 (by decide) (by decide), a 19 (by decide) (by decide)]
  refine ⟨x1, x2, v4, fun U hU => ?_, x5, x6, x7, x8, x9, x10, x11, x12, x13⟩
  have : aT A = U := Option.some.inj hU
  subst this
  refine RT_eq h1.1.2 hA.1.1 (fun j hj => ?_)
  rw [m4.2.2.2.1 2 (by simp) (by decide)]
  exact c3 j hj
theorem r_restore (h : RS S m A) (hA : aOk A) : rC S m (F_X10_restore S m) (stRestore A) := by
  unfold F_X10_restore stRestore
  obtain ⟨S1, e1, h1, m1, t1⟩ := r_start h 0
  rw [s10_oF h.1.1, e1, Option.bind_some, s10_g6 h1.1.1, Option.bind_some, h1.2.2.2.1]
  cases e : aSv A with
  | none =>
    rw [ite4 (b := (none : Option Tr).isSome) rfl]
    exact rC_fail (Bk_MR m1) h1 1 0 (by decide)
  | some U =>
    rw [ite5 (b := (some U).isSome) rfl]
    have hU := (hA.2.1 U e).1
    obtain ⟨S3, e3, m3, c3, o3⟩ := row_copy (F := F_X10_restore_20 m) (S := S1) (m := m) (e := 1709) (src := 2) (dst := 1) (fs := fun i => i) (fd := fun i => i) h1.1.1 (by decide) (by decide) (by decide) (fun S2 hs i v => s10_v1 hs i v) (fun i i' _ h => by omega) (fun i i' _ _ z => absurd z (by decide)) (by decide)
      (fun i S3 hi hs hfk => by
        unfold F_X10_restore_20
        rw [if_neg (ge1709 hi), s10_g1 hs, Option.bind_some, s10_g2 hs, Option.bind_some, s10_r2 hs hi, Option.bind_some, s10_w1 hs hi, Option.bind_some, nI_1])
      (fun S2 hs => by unfold F_X10_restore_20; rw [if_pos le1709])
    rw [e3, Option.bind_some, s10_p5 m3.1, Option.bind_some]
    have k4 := s10_k5 m3.1 m3.1 0
    have v4 := s10_v5 m3.1 0
    have m4 := r_setF m3.1 0 k4
    generalize wF S3 m 5 (.int 0) = S4 at *
    have m14 : MR S1 S4 m [1] [5] := MR_trans (MR_sub m3 (by decide) (by decide)) (MR_sub m4 (by decide) (by decide))
    have hRT : RT (cI (S4.2 (m + 1))) U := by
      rw [m4.2.2.2.1 1 (by simp) (by decide)]
      exact RT_eq (h1.2.2.2.2.1 U e) hU c3
    obtain ⟨S5, e5, m5, r5, f5⟩ := rr_back (hi := []) h1.2 m14 hRT hU hA v4 (fun k V hk => by simp at hk)
    rw [e5, Option.bind_some, r_items r5.1 hU, Option.bind_some]
    exact ⟨_, _, rfl, r5, Bk_trans (Bk_MR m1) (Bk_MR m5), by rw [m5.2.2.2.2 0 (by decide)]; exact t1, fun _ => rfl⟩
theorem r_isConsistent (h : RS S m A) : rC S m (F_X10_isConsistent S m) (A, 0, 1) := by
  unfold F_X10_isConsistent
  obtain ⟨S1, e1, h1, m1, t1⟩ := r_start h 0
  rw [s10_oF h.1.1, e1, Option.bind_some]
  exact ⟨_, _, rfl, h1, Bk_MR m1, t1, fun _ => rfl⟩
theorem r_errorPosition (h : RS S m A) (hA : aOk A) : rC S m (F_X10_errorPosition S m) (stErr A) := by
  unfold F_X10_errorPosition stErr
  obtain ⟨S1, e1, h1, m1, t1⟩ := r_start h 0
  have x9 := h1.2.2.2.2.2.2.2.2.2.1
  rw [s10_oF h.1.1, e1, Option.bind_some, s10_g11 h1.1.1, Option.bind_some, x9]
  cases e : aEr A with
  | none =>
    rw [if_neg (fun z => z rfl)]
    exact rC_fail (Bk_MR m1) h1 1 0 (by decide)
  | some p =>
    have := hA.2.2.2.2.2.2.2.2.1 p e
    dsimp only
    rw [if_pos (nI_nm1 (by omega)), Option.bind_some]
    exact ⟨_, _, rfl, h1, Bk_MR m1, t1, fun _ => rfl⟩
theorem r_refusal (h : RS S m A) (hA : aOk A) (x : Int32) : rC S m (F_X10_refusal S m x) (stRefusal A x) := by
  unfold F_X10_refusal stRefusal
  obtain ⟨S1, e1, h1, m1, t1⟩ := r_start h 0
  have x10 := h1.2.2.2.2.2.2.2.2.2.2.1
  have x11 := h1.2.2.2.2.2.2.2.2.2.2.2.1
  have hl := hA.2.2.2.2.2.2.2.2.2.1
  rw [s10_oF h.1.1, e1, Option.bind_some, s10_g13 h1.1.1, Option.bind_some, x10]
  by_cases c : aCh A = []
  · rw [if_neg (fun z => z (by rw [c]; rfl)), if_pos c]
    exact rC_fail (Bk_MR m1) h1 1 0 (by decide)
  · rw [if_pos (fun z => c ((nI_len0 _ (by omega)).mp z)), if_neg c, Option.bind_some, in_ix _ _ (by omega), Option.bind_some]
    rcases ixN_c x (n := (aCh A).length) (by omega) with ⟨j, hj, rfl, e⟩ | ⟨e, -⟩
    · rw [e, ite1 (b := (some j).isSome) rfl, s10_g12 h1.1.1, Option.bind_some, s10_r12 h1.1.1 (by omega), Option.bind_some]
      refine ⟨_, _, rfl, h1, Bk_MR m1, t1, fun _ => ?_⟩
      rw [x11 j _ (List.getElem?_eq_getElem hj)]
      show _ = (aCh A).getD j 0
      rw [List.getD_eq_getElem?_getD, List.getElem?_eq_getElem hj]; rfl
    · rw [e, ite0 (b := (none : Option Nat).isSome) rfl]
      exact rC_fail (Bk_MR m1) h1 2 0 (by decide)
theorem topH_app (H : List Nat) (i : Nat) : topH (H ++ [i]) = i := by unfold topH; simp
theorem r_top (h : RS S m A) (hA : aOk A) : F_X10_top S m = some (nI (topH (aHo A))) := by
  unfold F_X10_top topH
  have x5 := h.2.2.2.2.2.1
  have x6 := h.2.2.2.2.2.2.1
  have hl := hA.2.2.2.2.1
  rw [s10_oF h.1.1, s10_g8 h.1.1, Option.bind_some, x5]
  by_cases c : aHo A = []
  · rw [if_neg (fun z => z (by rw [c]; rfl)), c]; rfl
  · have hp := List.length_pos_iff.mpr c
    obtain ⟨u, hu⟩ : ∃ u, (aHo A).length = u + 1 := ⟨(aHo A).length - 1, by omega⟩
    rw [if_pos (fun z => c ((nI_len0 _ (by omega)).mp z)), s10_g7 h.1.1, Option.bind_some, Option.bind_some, hu, nI_pred, s10_r7 h.1.1 (by omega), Option.bind_some, List.getLast?_eq_getElem?, hu]
    have hu2 : u < (aHo A).length := by omega
    rw [x6 u _ (List.getElem?_eq_getElem hu2), Nat.add_sub_cancel, List.getElem?_eq_getElem hu2]
    rfl
theorem r_hoist (h : RS S m A) (hA : aOk A) (x : Int32) : rC S m (F_X10_hoist S m x) (stHoist A x) := by
  unfold F_X10_hoist stHoist
  obtain ⟨S1, e1, h1, m1, t1⟩ := r_start h 0
  have hl := hA.2.2.2.2.1
  rw [s10_oF h.1.1, e1, Option.bind_some, r_isItem h1.1, Option.bind_some]
  rcases itN_c hA.1.1 x with ⟨i, hi, rfl, hp, e, e2⟩ | ⟨e, e2⟩
  · rw [e, e2, ite5 rfl, s10_g8 h1.1.1, Option.bind_some, h1.2.2.2.2.2.1]
    dsimp only
    by_cases c : (aHo A).length = 4
    · rw [if_neg (fun z => z (by rw [c]; rfl)), if_pos c]
      exact rC_fail (Bk_MR m1) h1 2 0 (by decide)
    · rw [if_pos (show ¬ nI (aHo A).length = 4 from fun z => c ((nI_eq (b := 4) (by omega) (by decide)).mp z)), if_neg c, s10_g7 h1.1.1, Option.bind_some, Option.bind_some, s10_w7 h1.1.1 (by omega), Option.bind_some]
      have x2 := sh_wI h1.1.1 (m + 5) (aHo A).length (nI i)
      have v2 := s10_v7 h1.1.1 (aHo A).length (nI i)
      have m2 : MR S1 (wI S1 (m + 5) (aHo A).length (nI i)) m [5] [] := MR_I (MR_refl h1.1.1 _ _) (by simp) (by decide) (by decide) _ _
      generalize wI S1 (m + 5) (aHo A).length (nI i) = S2 at *
      rw [s10_g8 x2, Option.bind_some, m2.2.2.2.2 8 (by simp), h1.2.2.2.2.2.1, nI_1, s10_p8 x2, Option.bind_some]
      have k3 := s10_k8 x2 x2 (nI ((aHo A).length + 1))
      have v3 := s10_v8 x2 (nI ((aHo A).length + 1))
      have m3 := r_setF x2 (nI ((aHo A).length + 1)) k3
      generalize wF S2 m 8 (.int (nI ((aHo A).length + 1))) = S3 at *
      rw [s10_g8 k3, Option.bind_some, v3]
      have mm : MR S1 S3 m [5] [8] := MR_trans (MR_sub m2 (by decide) (by decide)) (MR_sub m3 (by decide) (by decide))
      obtain ⟨y1, y2, y3, y4, y5, y6, y7, y8, y9, y10, y11, y12, y13⟩ := h1.2
      have f : ∀ k, k ∉ [8] → fI (S3.2 m) k = fI (S1.2 m) k := fun k hk => mm.2.2.2.2 k hk
      have a : ∀ j, j ≠ 5 → j ≠ 0 → S3.2 (m + j) = S1.2 (m + j) := fun j hj h0 => mm.2.2.2.1 j (by simpa using hj) h0
      refine ⟨_, _, rfl, ⟨MR_RR mm (by decide) h1.1, ?_⟩, Bk_trans (Bk_MR m1) (Bk_MR mm), by rw [f 0 (by decide)]; exact t1, fun _ => rfl⟩
      unfold RX
      rw [f 5 (by decide), f 6 (by decide), f 10 (by decide), f 11 (by decide), f 13 (by decide), f 30 (by decide), a 2 (by decide) (by decide), a 4 (by decide) (by decide), a 6 (by decide) (by decide), a 7 (by decide) (by decide), a 15 (by decide) (by decide), a 16 (by decide) (by decide), a 17 (by decide) (by decide), a 18 (by decide) (by decide), a 19 (by decide) (by decide)]
      refine ⟨y1, y2, y3, y4, ?_, fun k j hk => ?_, y7, y8, y9, y10, y11, y12, y13⟩
      · rw [v3]
        show _ = nI (aHo A ++ [i]).length
        rw [List.length_append]; rfl
      · have hk' : (aHo A ++ [i])[k]? = some j := hk
        rw [m3.2.2.2.1 5 (by simp) (by decide), v2]
        by_cases d : k = (aHo A).length
        · subst d
          rw [List.getElem?_append_right (Nat.le_refl _), Nat.sub_self] at hk'
          have : i = j := by simpa using hk'
          rw [pu_at, this]
        · rw [pu_ne _ _ _ d]
          apply y6
          rw [List.getElem?_append] at hk'
          by_cases l : k < (aHo A).length
          · rw [if_pos l] at hk'; exact hk'
          · rw [if_neg l] at hk'
            have := (List.getElem?_eq_some_iff.mp hk').1
            rw [List.length_singleton] at this
            omega
  · rw [e, e2, ite4 rfl]
    exact rC_fail (Bk_MR m1) h1 1 0 (by decide)
theorem r_unhoist (h : RS S m A) (hA : aOk A) : rC S m (F_X10_unhoist S m) (stUnhoist A) := by
  unfold F_X10_unhoist stUnhoist
  obtain ⟨S1, e1, h1, m1, t1⟩ := r_start h 0
  have hl := hA.2.2.2.2.1
  rw [s10_oF h.1.1, e1, Option.bind_some, s10_g8 h1.1.1, Option.bind_some, h1.2.2.2.2.2.1]
  by_cases c : aHo A = []
  · rw [if_neg (fun z => z (by rw [c]; rfl)), if_pos c]
    exact rC_fail (Bk_MR m1) h1 1 0 (by decide)
  · have hp := List.length_pos_iff.mpr c
    obtain ⟨u, hu⟩ : ∃ u, (aHo A).length = u + 1 := ⟨(aHo A).length - 1, by omega⟩
    rw [if_pos (fun z => c ((nI_len0 _ (by omega)).mp z)), if_neg c, Option.bind_some, hu, nI_pred, s10_p8 h1.1.1, Option.bind_some]
    have k2 := s10_k8 h1.1.1 h1.1.1 (nI u)
    have v2 := s10_v8 h1.1.1 (nI u)
    have m2 := r_setF h1.1.1 (nI u) k2
    generalize wF S1 m 8 (.int (nI u)) = S2 at *
    obtain ⟨y1, y2, y3, y4, y5, y6, y7, y8, y9, y10, y11, y12, y13⟩ := h1.2
    have f : ∀ k, k ∉ [8] → fI (S2.2 m) k = fI (S1.2 m) k := fun k hk => m2.2.2.2.2 k hk
    have a : ∀ j, j ≠ 0 → S2.2 (m + j) = S1.2 (m + j) := fun j h0 => m2.2.2.2.1 j (by simp) h0
    have hdl : (aHo A).dropLast.length = u := by rw [List.length_dropLast, hu]; rfl
    have h2 : RS S2 m (aSetHo A (aHo A).dropLast) := by
      refine ⟨MR_RR m2 (by decide) h1.1, ?_⟩
      unfold RX
      rw [f 5 (by decide), f 6 (by decide), f 10 (by decide), f 11 (by decide), f 13 (by decide), f 30 (by decide), a 2 (by decide), a 4 (by decide), a 5 (by decide), a 6 (by decide), a 7 (by decide), a 15 (by decide), a 16 (by decide), a 17 (by decide), a 18 (by decide), a 19 (by decide)]
      refine ⟨y1, y2, y3, y4, ?_, fun k j hk => ?_, y7, y8, y9, y10, y11, y12, y13⟩
      · rw [v2]
        show _ = nI (aHo A).dropLast.length
        rw [hdl]
      · have hk' : (aHo A).dropLast[k]? = some j := hk
        have hk2 := (List.getElem?_eq_some_iff.mp hk').1
        rw [List.getElem?_dropLast] at hk'
        rw [hdl] at hk2
        rw [if_pos (by omega)] at hk'
        exact y6 k j hk'
    have hA2 : aOk (aSetHo A (aHo A).dropLast) := by
      obtain ⟨b1, b2, b3, b4, b5, b6, b7⟩ := hA
      refine ⟨b1, b2, b3, b4, ?_, fun i hi => b6 i ((List.dropLast_sublist (aHo A)).subset hi), b7⟩
      show (aHo A).dropLast.length ≤ 4
      omega
    rw [r_top h2 hA2, Option.bind_some]
    exact ⟨_, _, rfl, h2, Bk_trans (Bk_MR m1) (Bk_MR m2), by rw [f 0 (by decide)]; exact t1, fun _ => rfl⟩
end RCA
