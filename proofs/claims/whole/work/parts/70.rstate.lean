/-! the whole state, purely: outline, saved, history, hoists, text, error, chain, conditions (kind, turned, number, letters) -/
abbrev Cnd : Type := Nat × Bool × Int32 × List Int32
abbrev As : Type := Tr × Option Tr × List Tr × List Nat × List Int32 × Option Nat × List Int32 × List Cnd
def aT (A : As) : Tr := A.1
def aSv (A : As) : Option Tr := A.2.1
def aHi (A : As) : List Tr := A.2.2.1
def aHo (A : As) : List Nat := A.2.2.2.1
def aTx (A : As) : List Int32 := A.2.2.2.2.1
def aEr (A : As) : Option Nat := A.2.2.2.2.2.1
def aCh (A : As) : List Int32 := A.2.2.2.2.2.2.1
def aCn (A : As) : List Cnd := A.2.2.2.2.2.2.2
/-- an outline between calls -/
def good (T : Tr) : Prop := tOk T ∧ tAll T ∧ wayT T 0 ≤ 300
def cOk (c : Cnd) : Prop := c.1 ≤ 6 ∧ c.2.2.2.length ≤ 10 ∧ (c.1 = 6 → 0 < c.2.2.2.length) ∧ ∀ x, x ∈ c.2.2.2 → 97 ≤ x ∧ x ≤ 122
def aOk (A : As) : Prop := good (aT A) ∧ (∀ U, aSv A = some U → good U) ∧ (∀ U, U ∈ aHi A → good U) ∧ (aHi A).length ≤ 8 ∧ (aHo A).length ≤ 4 ∧ (∀ i, i ∈ aHo A → tPres (aT A) i = true) ∧ (aTx A).length ≤ 80 ∧ (∀ x, x ∈ aTx A → 32 ≤ x ∧ x ≤ 126) ∧ (∀ e, aEr A = some e → e ≤ 80) ∧ (aCh A).length ≤ 3 ∧ (aCn A).length ≤ 5 ∧ (∀ c, c ∈ aCn A → cOk c) ∧ tName (aT A) 0 = [] ∧ (∀ U, aSv A = some U → tName U 0 = []) ∧ ∀ U, U ∈ aHi A → tName U 0 = []
/-- the reference holds all but the outline -/
def RX (S : pS) (m : Nat) (A : As) : Prop := fI (S.2 m) 5 = nI (aHi A).length ∧ (∀ k U, (aHi A)[k]? = some U → RT (fun j => cI (S.2 (m + 4)) (1709 * k + j)) U) ∧
  fI (S.2 m) 6 = (if (aSv A).isSome = true then 1 else 0) ∧ (∀ U, aSv A = some U → RT (cI (S.2 (m + 2))) U) ∧
  fI (S.2 m) 8 = nI (aHo A).length ∧ (∀ (k i : Nat), (aHo A)[k]? = some i → cI (S.2 (m + 5)) k = nI i) ∧
  fI (S.2 m) 10 = nI (aTx A).length ∧ (∀ (k : Nat) x, (aTx A)[k]? = some x → cI (S.2 (m + 6)) k = x) ∧
  fI (S.2 m) 11 = (match aEr A with
    | none => -1
    | some e => nI e) ∧
  fI (S.2 m) 13 = nI (aCh A).length ∧ (∀ (k : Nat) x, (aCh A)[k]? = some x → cI (S.2 (m + 7)) k = x) ∧
  fI (S.2 m) 30 = nI (aCn A).length ∧ ∀ (c : Nat) (q : Cnd), (aCn A)[c]? = some q → cI (S.2 (m + 15)) c = nI q.1 ∧ cI (S.2 (m + 19)) c = (if q.2.1 = true then 1 else 0) ∧ (q.1 = 4 ∨ q.1 = 5 → cI (S.2 (m + 16)) c = q.2.2.1) ∧
    (q.1 = 6 → cI (S.2 (m + 17)) c = nI q.2.2.2.length ∧ ∀ (k : Nat) x, q.2.2.2[k]? = some x → cI (S.2 (m + 18)) (10 * c + k) = x)
def RS (S : pS) (m : Nat) (A : As) : Prop := RR S m (aT A) ∧ RX S m A
def rxL : List Nat := [2, 4, 5, 6, 7, 15, 16, 17, 18, 19]
def rxK : List Nat := [5, 6, 8, 10, 11, 13, 30]
theorem RX_fr {S S1 : pS} {m : Nat} {A : As} {L ks : List Nat} (h : RX S m A) (hM : MR S S1 m L ks) (hL : ∀ j, j ∈ L → j ∉ rxL) (hk : ∀ k, k ∈ ks → k ∉ rxK) : RX S1 m A := by
  have a : ∀ j, j ∈ rxL → j ≠ 0 → S1.2 (m + j) = S.2 (m + j) := fun j hj h0 => hM.2.2.2.1 j (fun z => hL j z hj) h0
  have f : ∀ k, k ∈ rxK → fI (S1.2 m) k = fI (S.2 m) k := fun k hk' => hM.2.2.2.2 k (fun z => hk k z hk')
  unfold RX
  rw [f 5 (by decide), f 6 (by decide), f 8 (by decide), f 10 (by decide), f 11 (by decide), f 13 (by decide), f 30 (by decide), a 2 (by decide) (by decide), a 4 (by decide) (by decide), a 5 (by decide) (by decide), a 6 (by decide) (by decide), a 7 (by decide) (by decide), a 15 (by decide) (by decide), a 16 (by decide) (by decide), a 17 (by decide) (by decide), a 18 (by decide) (by decide), a 19 (by decide) (by decide)]
  exact h
theorem RS_fr {S S1 : pS} {m : Nat} {A : As} {L ks : List Nat} (h : RS S m A) (hM : MR S S1 m L ks) (h1 : 1 ∉ L) (hL : ∀ j, j ∈ L → j ∉ rxL) (hk : ∀ k, k ∈ ks → k ∉ rxK) : RS S1 m A := ⟨MR_RR hM h1 h.1, RX_fr h.2 hM hL hk⟩
/-- hoists end unless all are there -/
def chkH (T : Tr) (H : List Nat) : List Nat := if (H.all fun i => tPres T i) = true then H else []
def pushH (h : List Tr) (T : Tr) : List Tr := if h.length = 8 then h.tail ++ [T] else h ++ [T]
def aSetT (A : As) (T : Tr) : As := (T, A.2)
def aSetHi (A : As) (h : List Tr) : As := (aT A, aSv A, h, A.2.2.2)
def aSetHo (A : As) (h : List Nat) : As := (aT A, aSv A, aHi A, h, A.2.2.2.2)
def aSetTx (A : As) (t : List Int32) : As := (aT A, aSv A, aHi A, aHo A, t, A.2.2.2.2.2)
def aSetEr (A : As) (e : Option Nat) : As := (aT A, aSv A, aHi A, aHo A, aTx A, e, A.2.2.2.2.2.2)
def aSetCh (A : As) (c : List Int32) : As := (aT A, aSv A, aHi A, aHo A, aTx A, aEr A, c, aCn A)
def aSetCn (A : As) (c : List Cnd) : As := (aT A, aSv A, aHi A, aHo A, aTx A, aEr A, aCh A, c)
def aSetSv (A : As) (U : Option Tr) : As := (aT A, U, A.2.2)
/-- a change is made: T is the outline now -/
def aKeep (A : As) (T : Tr) : As := aSetHo (aSetHi (aSetT A T) (pushH (aHi A) (aT A))) (chkH T (aHo A))
section RST
variable {S : pS} {m : Nat} {T : Tr} {A : As}
theorem RX_aT (h : RX S m A) (T : Tr) : RX S m (aSetT A T) := h
theorem r_setF (h : Sh S m sp10) {k : Nat} (v : Int32) (hs : Sh (wF S m k (.int v)) m sp10) : MR S (wF S m k (.int v)) m [] [k] := MR_F (MR_refl h _ _) (by simp) hs
theorem r_checksHoists (h : RR S m T) (hT : tOk T) {H : List Nat} (hl : H.length ≤ 4) (hn : fI (S.2 m) 8 = nI H.length) (hH : ∀ (k i : Nat), H[k]? = some i → cI (S.2 (m + 5)) k = nI i) (hb : ∀ i, i ∈ H → i < 61) :
    ∃ S', F_X10_checksHoists S m = some S' ∧ MR S S' m [] [8] ∧ fI (S'.2 m) 8 = nI (chkH T H).length := by
  unfold F_X10_checksHoists
  obtain ⟨r, e, hr⟩ := iter_fu (F := F_X10_checksHoists_4 m S) (s := ((1 : Int32), (0 : Int32))) (fun i s => s = ((if ((H.take i).all fun i => tPres T i) = true then (1 : Int32) else 0), nI i)) (P := fun r => r = if (H.all fun i => tPres T i) = true then (1 : Int32) else 0) H.length (by omega) (by simp; rfl)
    (by
      rintro s rfl
      unfold F_X10_checksHoists_4
      rw [s10_g8 h.1, Option.bind_some, hn, if_pos (Int32.le_refl _), List.take_length]
      exact ⟨_, rfl, rfl⟩)
    (by
      rintro i s hi rfl
      have hiH : H[i]? = some H[i] := List.getElem?_eq_getElem hi
      have hi61 := hb _ (List.getElem_mem hi)
      unfold F_X10_checksHoists_4
      rw [s10_g8 h.1, Option.bind_some, hn, if_neg (nI_ge hi (by omega)), List.take_succ_eq_append_getElem hi, List.all_append]
      cases c : ((H.take i).all fun i => tPres T i)
      · rw [if_pos (by simp), nI_1]
        refine ⟨_, rfl, ?_⟩
        show (_, _) = _
        simp
      · rw [if_neg (by simp), s10_g7 h.1, Option.bind_some, s10_r7 h.1 (by omega), Option.bind_some, hH i _ hiH, r_isItem_n h hi61, Option.bind_some]
        cases d : tPres T H[i]
        · rw [ite0 rfl, nI_1]
          refine ⟨_, rfl, ?_⟩
          show (_, _) = _
          simp [d]
        · rw [ite1 rfl, nI_1]
          refine ⟨_, rfl, ?_⟩
          show (_, _) = _
          simp [d])
  rw [s10_oF h.1, e, Option.bind_some, hr]
  unfold chkH
  cases c : (H.all fun i => tPres T i)
  · rw [ite0 rfl]
    unfold F_X10_checksHoists_54
    rw [s10_p8 h.1, Option.bind_some]
    exact ⟨_, rfl, r_setF h.1 _ (s10_k8 h.1 h.1 0), s10_v8 h.1 0⟩
  · rw [ite1 rfl, s10_g8 h.1, Option.bind_some]
    unfold F_X10_checksHoists_54
    rw [s10_p8 h.1, Option.bind_some]
    refine ⟨_, rfl, r_setF h.1 _ (s10_k8 h.1 h.1 _), ?_⟩
    rw [s10_v8 h.1, hn, if_pos rfl]
theorem hoist_ok {T : Tr} {H : List Nat} (h : ∀ (k i : Nat), H[k]? = some i → cI (S.2 (m + 5)) k = nI i) : ∀ (k i : Nat), (chkH T H)[k]? = some i → cI (S.2 (m + 5)) k = nI i := by
  intro k i hk
  unfold chkH at hk
  by_cases c : (H.all fun i => tPres T i) = true
  · rw [if_pos c] at hk; exact h k i hk
  · rw [if_neg c] at hk; simp at hk
/-- behind a change: the row is the new outline's, the frame the old one's -/
theorem r_keeps (h : RR S m T) (hT : tOk T) (hX : RX S m A) (hA : aOk A) (hf : RT (cI (S.2 (m + 3))) (aT A)) : ∃ S', F_X10_keeps S m = some S' ∧ MR S S' m [4] [5, 8] ∧ RS S' m (aKeep A T) := by
  have hgT := hA.1.1
  have hlen := hA.2.2.2.1
  -- the kept ones
  have key : ∀ (S1 : pS) (h1 : List Tr), h1.length < 8 → MR S S1 m [4] [5, 8] → fI (S1.2 m) 5 = nI (h1.length + 1) → (∀ k U, h1[k]? = some U → RT (fun j => cI (S1.2 (m + 4)) (1709 * k + j)) U) → (∀ U, U ∈ h1 → tOk U) → pushH (aHi A) (aT A) = h1 ++ [aT A] → fI (S1.2 m) 8 = fI (S.2 m) 8 → ∃ S', F_X10_keeps_53 S1 m = some S' ∧ MR S S' m [4] [5, 8] ∧ RS S' m (aKeep A T) := by
    intro S1 h1 hl1 m1 n1 t1 ok1 hp1 n8
    unfold F_X10_keeps_53
    obtain ⟨S2, e2, m2, c2, o2⟩ := row_copy (F := F_X10_keeps_55 m) (S := S1) (m := m) (e := 1709) (src := 3) (dst := 4) (fs := fun i => i) (fd := fun i => 1709 * h1.length + i) m1.1 (by decide) (by decide) (by decide) (fun S2 hs i v => s10_v4 hs i v) (fun i i' _ h => by omega) (fun i i' _ _ z => absurd z (by decide)) (by decide)
      (fun i S2 hi hs hfk => by
        unfold F_X10_keeps_55
        rw [if_neg (ge1709 hi), s10_g4 hs, Option.bind_some, s10_g5 hs, Option.bind_some, hfk 5, n1, s10_g3 hs, Option.bind_some, s10_r3 hs hi, Option.bind_some, nI_pred, li_1709, pk_mul, nI_add, s10_w4 hs (by omega), Option.bind_some, nI_1])
      (fun S2 hs => by unfold F_X10_keeps_55; rw [if_pos le1709])
    rw [e2, Option.bind_some]
    have m12 : MR S S2 m [4] [5, 8] := MR_trans m1 (MR_sub m2 (by decide) (by decide))
    have hr2 := MR_RR m12 (by decide) h
    have f2 : ∀ k, fI (S2.2 m) k = fI (S1.2 m) k := fun k => m2.2.2.2.2 k (by simp)
    obtain ⟨S3, e3, m3, n3⟩ := r_checksHoists (H := aHo A) hr2 hT hA.2.2.2.2.1 (by rw [f2, n8]; exact hX.2.2.2.2.1) (fun k i hk => by rw [m12.2.2.2.1 5 (by decide) (by decide)]; exact hX.2.2.2.2.2.1 k i hk) (fun i hi => tOk_lt hgT (hA.2.2.2.2.2.1 i hi))
    rw [e3, Option.bind_some]
    have m13 : MR S S3 m [4] [5, 8] := MR_trans m12 (MR_sub m3 (by decide) (by decide))
    have f3 : ∀ k, k ∉ [5, 8] → fI (S3.2 m) k = fI (S.2 m) k := fun k hk => m13.2.2.2.2 k hk
    have a3 : ∀ j, j ≠ 4 → j ≠ 0 → S3.2 (m + j) = S.2 (m + j) := fun j hj h0 => m13.2.2.2.1 j (by simpa using hj) h0
    obtain ⟨x1, x2, x3, x4, x5, x6, x7, x8, x9, x10, x11, x12, x13⟩ := hX
    refine ⟨S3, rfl, m13, MR_RR m13 (by decide) h, ?_⟩
    have eHi : aHi (aKeep A T) = h1 ++ [aT A] := hp1
    unfold RX
    rw [eHi]
    refine ⟨?_, ?_, ?_, ?_, ?_, ?_, ?_, ?_, ?_, ?_, ?_, ?_, ?_⟩
    · rw [m3.2.2.2.2 5 (by decide), f2, n1, List.length_append, List.length_singleton]
    · intro k U hk
      rw [m3.2.2.2.1 4 (by decide) (by decide)]
      by_cases c : k < h1.length
      · rw [List.getElem?_append_left c] at hk
        have hU := ok1 U (List.mem_of_getElem? hk)
        refine RT_eq (t1 k U hk) hU (fun j hj => ?_)
        exact o2 _ (fun i hi => by omega)
      · have hk2 := (List.getElem?_eq_some_iff.mp hk).1
        rw [List.length_append, List.length_singleton] at hk2
        have : k = h1.length := by omega
        subst this
        rw [List.getElem?_append_right (Nat.le_refl _), Nat.sub_self] at hk
        have : aT A = U := by simpa using hk
        subst this
        refine RT_eq hf hgT (fun j hj => ?_)
        have := c2 j hj
        rw [m1.2.2.2.1 3 (by decide) (by decide)] at this
        exact this
    · rw [f3 6 (by decide)]; exact x3
    · rw [a3 2 (by decide) (by decide)]; exact x4
    · exact n3
    · rw [a3 5 (by decide) (by decide)]; exact hoist_ok x6
    · rw [f3 10 (by decide)]; exact x7
    · rw [a3 6 (by decide) (by decide)]; exact x8
    · rw [f3 11 (by decide)]; exact x9
    · rw [f3 13 (by decide)]; exact x10
    · rw [a3 7 (by decide) (by decide)]; exact x11
    · rw [f3 30 (by decide)]; exact x12
    · rw [a3 15 (by decide) (by decide), a3 16 (by decide) (by decide), a3 17 (by decide) (by decide), a3 18 (by decide) (by decide), a3 19 (by decide) (by decide)]; exact x13
  unfold F_X10_keeps
  rw [s10_oF h.1, s10_g5 h.1, Option.bind_some, hX.1]
  by_cases c : (aHi A).length = 8
  · rw [if_neg (fun z => z (by rw [c]; rfl))]
    obtain ⟨S2, e2, m2, c2, o2⟩ := row_copy (F := F_X10_keeps_11 m) (S := S) (m := m) (e := 11963) (src := 4) (dst := 4) (fs := fun i => i + 1709) (fd := fun i => i) h.1 (by decide) (by decide) (by decide) (fun S2 hs i v => s10_v4 hs i v) (fun i i' _ h => by omega) (fun i i' h1 _ _ => by omega) (by decide)
      (fun i S2 hi hs hfk => by
        unfold F_X10_keeps_11
        rw [if_neg (ge11963 hi), s10_g4 hs, Option.bind_some, Option.bind_some, li_1709, nI_add, s10_r4 hs (by omega), Option.bind_some, s10_w4 hs (by omega), Option.bind_some, nI_1])
      (fun S2 hs => by unfold F_X10_keeps_11; rw [if_pos le11963])
    rw [e2, Option.bind_some]
    have ht : (aHi A).tail.length = 7 := by rw [List.length_tail, c]
    refine key S2 (aHi A).tail (by omega) (MR_sub m2 (by decide) (by decide)) (by rw [m2.2.2.2.2 5 (by simp), hX.1, ht, c]) (fun k U hk => ?_) (fun U hU => (hA.2.2.1 U (List.mem_of_mem_tail hU)).1) (by unfold pushH; rw [if_pos c]) (m2.2.2.2.2 8 (by simp))
    have hk2 := (List.getElem?_eq_some_iff.mp hk).1
    rw [List.getElem?_tail] at hk
    have hU := (hA.2.2.1 U (List.mem_of_getElem? hk)).1
    refine RT_eq (hX.2.1 (k + 1) U hk) hU (fun j hj => ?_)
    have := c2 (1709 * k + j) (by omega)
    rw [this]
    congr 1
    omega
  · have hl : (aHi A).length < 8 := by omega
    rw [if_pos (show ¬ nI (aHi A).length = 8 from fun z => c ((nI_eq (b := 8) (by omega) (by decide)).mp z)), Option.bind_some, s10_p5 h.1, Option.bind_some, nI_1]
    have hs5 := s10_k5 h.1 h.1 (nI ((aHi A).length + 1))
    have m5 := r_setF h.1 _ hs5
    refine key _ (aHi A) hl (MR_sub m5 (by decide) (by decide)) (s10_v5 h.1 _) (fun k U hk => ?_) (fun U hU => (hA.2.2.1 U hU).1) (by unfold pushH; rw [if_neg c]) (m5.2.2.2.2 8 (by decide))
    rw [m5.2.2.2.1 4 (by simp) (by decide)]
    exact hX.2.1 k U hk
theorem r_removes (h : RR S m T) (hT : tOk T) : ∃ S', F_X10_removes S m = some (nI (cntB fun i => tPres T i && !lb (famT T 0) i), S') ∧ MR S S' m [1, 8, 9, 10, 11, 12, 13] [20] ∧ RR S' m (tKeep T (lb (famT T 0))) := by
  unfold F_X10_removes
  obtain ⟨S1, e1, m1, k1⟩ := r_knows h hT
  have h1 := MR_RR m1 (by decide) h
  rw [s10_oF h.1, e1, Option.bind_some]
  have hfb : ∀ i, i < 61 → i ≠ 0 → (lb (famT T 0) i = lb (belT T 0) i) := by
    intro i hi h0
    have := fam_bel hT 0 hT.1 i (by omega)
    cases e : lb (famT T 0) i <;> cases f : lb (belT T 0) i <;> first | rfl | (rw [e, f] at this; simp [h0] at this)
  obtain ⟨r, e, hr1, hr2, hr3⟩ := iter_fu (F := F_X10_removes_8 m) (s := ((0 : Int32), (1 : Int32), S1)) (fun i s => s.1 = nI ((List.range (1 + i)).filter fun i => tPres T i && !lb (famT T 0) i).length ∧ s.2.1 = nI (1 + i) ∧ MR S1 s.2.2 m [1] [] ∧ ∀ j, cI (s.2.2.2 (m + 1)) j = if 1 ≤ j ∧ j < 1 + (1 + i) ∧ lb (famT T 0) (j - 1) = false then 0 else cI (S1.2 (m + 1)) j)
    (P := fun r => r.1 = nI (cntB fun i => tPres T i && !lb (famT T 0) i) ∧ MR S1 r.2 m [1] [] ∧ ∀ j, cI (r.2.2 (m + 1)) j = if 1 ≤ j ∧ j < 62 ∧ lb (famT T 0) (j - 1) = false then 0 else cI (S1.2 (m + 1)) j) 60 (by decide)
    ⟨by
      have : (List.range (1 + 0)).filter (fun i => tPres T i && !lb (famT T 0) i) = [] := by
        simp [List.range_succ, fam_self hT hT.1]
      rw [this]; rfl, rfl, MR_refl m1.1 _ _, fun j => by
      rw [if_neg]
      rintro ⟨z1, z2, z3⟩
      have : j = 1 := by omega
      subst this
      rw [fam_self hT hT.1] at z3
      cases z3⟩
    (by
      rintro ⟨n, b, S2⟩ ⟨h2, h3, h4, h5⟩
      dsimp only at h2 h3 h4 h5
      subst h3
      unfold F_X10_removes_8
      rw [if_pos le61]
      exact ⟨_, rfl, h2, h4, h5⟩)
    (by
      rintro i ⟨n, b, S2⟩ hi ⟨h2, h3, h4, h5⟩
      dsimp only at h2 h3 h4 h5
      subst h3
      have hi61 : 1 + i < 61 := by omega
      unfold F_X10_removes_8
      rw [if_neg (ge61 hi61), s10_g1 h4.1, Option.bind_some]
      dsimp only
      have ec : cI (S2.2 (m + 1)) (1 + (1 + i)) = if tPres T (1 + i) = true then 1 else 0 := by
        rw [h5, if_neg (by omega)]; exact h1.2.2.1 _ hi61
      rw [nI_1l, s10_r1 h4.1 (by omega), Option.bind_some, ec, nI_1]
      have er : (List.range (1 + (i + 1))).filter (fun i => tPres T i && !lb (famT T 0) i) = (List.range (1 + i)).filter (fun i => tPres T i && !lb (famT T 0) i) ++ (if (tPres T (1 + i) && !lb (famT T 0) (1 + i)) = true then [1 + i] else []) := by
        rw [← Nat.add_assoc, List.range_succ, List.filter_append]
        congr 1
        rw [List.filter_cons, List.filter_nil]
      cases hp : tPres T (1 + i)
      · rw [ite2 rfl]
        refine ⟨_, rfl, ?_, rfl, h4, fun j => ?_⟩
        · dsimp only; rw [er, hp]; simpa using h2
        · dsimp only
          rw [h5]
          by_cases z : 1 ≤ j ∧ j < 1 + (1 + i) ∧ lb (famT T 0) (j - 1) = false
          · rw [if_pos z, if_pos ⟨z.1, by omega, z.2.2⟩]
          · rw [if_neg z]
            by_cases z2 : 1 ≤ j ∧ j < 1 + (1 + (i + 1)) ∧ lb (famT T 0) (j - 1) = false
            · have : j = 1 + (1 + i) := by
                rcases Nat.lt_or_ge j (1 + (1 + i)) with w | w
                · exact absurd ⟨z2.1, w, z2.2.2⟩ z
                · omega
              subst this
              rw [if_pos z2, h1.2.2.1 _ hi61, hp]; rfl
            · rw [if_neg z2]
      · rw [ite3 rfl, r_isUnder h4.1 ⟨by rw [h4.2.2.2.2 20 (by simp)]; exact k1.1, fun j c hc => by rw [h4.2.2.2.1 8 (by decide) (by decide)]; exact k1.2.1 j c hc, fun c hc => by
            rw [h4.2.2.2.1 10 (by decide) (by decide), h4.2.2.2.1 11 (by decide) (by decide), h4.2.2.2.1 12 (by decide) (by decide), h4.2.2.2.1 13 (by decide) (by decide)]; exact k1.2.2 c hc⟩ hi61 (by decide) |> fun (z : F_X10_isUnder S2 m (nI (1 + i)) (nI 0) = _) => (show F_X10_isUnder S2 m (nI (1 + i)) (0 : Int32) = _ from z), Option.bind_some, ← hfb _ hi61 (by omega)]
        cases hb : lb (famT T 0) (1 + i)
        · rw [ite4 rfl, Option.bind_some, s10_w1 h4.1 (by omega), Option.bind_some]
          refine ⟨_, rfl, ?_, rfl, MR_I h4 (by simp) (by decide) (by decide) _ _, fun j => ?_⟩
          · dsimp only
            rw [er, hp, hb, h2, nI_1]; simp
          · dsimp only
            rw [s10_v1 h4.1]
            by_cases z : j = 1 + (1 + i)
            · subst z
              rw [pu_at, if_pos ⟨by omega, by omega, by rw [Nat.add_sub_cancel_left]; exact hb⟩]
            · rw [pu_ne _ _ _ z, h5]
              by_cases z2 : 1 ≤ j ∧ j < 1 + (1 + i) ∧ lb (famT T 0) (j - 1) = false
              · rw [if_pos z2, if_pos ⟨z2.1, by omega, z2.2.2⟩]
              · rw [if_neg z2, if_neg (fun w => z2 ⟨w.1, by omega, w.2.2⟩)]
        · rw [ite5 rfl]
          refine ⟨_, rfl, ?_, rfl, h4, fun j => ?_⟩
          · dsimp only; rw [er, hp, hb]; simpa using h2
          · dsimp only
            rw [h5]
            by_cases z : 1 ≤ j ∧ j < 1 + (1 + i) ∧ lb (famT T 0) (j - 1) = false
            · rw [if_pos z, if_pos ⟨z.1, by omega, z.2.2⟩]
            · rw [if_neg z, if_neg]
              intro z2
              refine z ⟨z2.1, ?_, z2.2.2⟩
              rcases Nat.lt_or_ge j (1 + (1 + i)) with w | w
              · exact w
              · have : j = 1 + (1 + i) := by omega
                subst this
                have := z2.2.2
                rw [Nat.add_sub_cancel_left, hb] at this
                cases this)
  rw [e, Option.bind_some, hr1]
  refine ⟨r.2, rfl, MR_trans (MR_sub m1 (by decide) (by decide)) (MR_sub hr2 (by decide) (by decide)), hr2.1, ?_⟩
  have hg := h1.2
  obtain ⟨g1, g2, g3⟩ := hg
  refine ⟨by rw [hr3, if_neg (by omega)]; exact g1, fun i hi => ?_, fun i hi => ?_⟩
  · rw [hr3]
    show _ = if (tPres T i && lb (famT T 0) i) = true then 1 else 0
    cases hb : lb (famT T 0) i
    · rw [if_pos ⟨by omega, by omega, by rw [Nat.add_sub_cancel_left]; exact hb⟩]; simp
    · rw [if_neg (fun z => by have := z.2.2; rw [Nat.add_sub_cancel_left, hb] at this; cases this), g2 i hi]; simp
  · obtain ⟨hi1, hi2⟩ := (keep_pres _ _ _).mp hi
    have hi61 := tOk_lt hT hi1
    obtain ⟨b1, b2, b3, b4, b5, b6, b7⟩ := g3 i hi1
    have lo : ∀ j, 62 ≤ j → cI (r.2.2 (m + 1)) j = cI (S1.2 (m + 1)) j := fun j hj => by rw [hr3, if_neg (by omega)]
    rw [lo _ (by omega), lo _ (by omega), lo _ (by omega), lo _ (by omega), lo _ (by omega)]
    exact ⟨b1, b2, b3, b4, fun k y hy => by rw [lo _ (by omega)]; exact b5 k y hy, b6, fun k y hy => by rw [lo _ (by omega)]; exact b7 k y hy⟩
end RST
