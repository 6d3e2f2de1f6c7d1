/-! one turn of the law: class and reference answer alike, and both states go on -/
section TRN
def LO (S : pS) : Prop := (∃ g, S.2 109 = .inl (.long, 1, .inr (.inl g))) ∧ ∃ g, S.2 110 = .inl (.double, 1, .inr (.inr (.inr (.inl g))))
def LI (S : pS) (A : As) : Prop := CS S A ∧ RS S 68 A ∧ aOk A ∧ LO S
theorem CS_n {S : pS} {A : As} (h : CS S A) : 111 ≤ S.1 := by
  obtain ⟨R, c1, c2, h⟩ := h
  exact h.1.1
theorem CS_mid {S S' : pS} {A : As} (h : CS S A) (hn : S.1 ≤ S'.1) (e : ∀ q, q < S.1 → (q < 68 ∨ 111 ≤ q) → S'.2 q = S.2 q) : CS S' A := by
  obtain ⟨R, c1, c2, h⟩ := h
  have hcc : (c1 = 35 ∧ c2 = 41) ∨ (c1 = 41 ∧ c2 = 35) := h.2.2.2.2.2.2.2.2.2.2.1
  have h111 := h.1.1
  refine ⟨R, c1, c2, CSr_fr h hn (SC_fr h.2.2.2.2.2.2.2.1 hn (by omega) (fun q hq => e q (by omega) (Or.inl (by omega)))) (fun d hd => ?_) (fun q q1 q2 => ?_)⟩
  · have hd9 := h.2.1.1 1 d (by omega) hd
    have hp := hd9.2
    have hsz := hp.1
    have l8 : sp8.length = 7 := rfl
    exact sh_fr hp hn (fun q q1 q2 => e q (by omega) (by omega))
  · by_cases c : q < 68 ∨ 111 ≤ q
    · exact e q q1 c
    · exact absurd (Or.inr (Or.inr (Or.inr (Or.inr (Or.inr (Or.inr (Or.inl ⟨by omega, by omega⟩))))))) q2
theorem RS_mid {S S' : pS} {A : As} (h : RS S 68 A) (hn : S.1 ≤ S'.1) (e : ∀ q, 68 ≤ q → q < 109 → S'.2 q = S.2 q) : RS S' 68 A := by
  have a : ∀ j, j < 41 → S'.2 (68 + j) = S.2 (68 + j) := fun j hj => e _ (by omega) (by omega)
  have a0 : S'.2 68 = S.2 68 := e _ (by omega) (by omega)
  refine ⟨⟨sh_fr h.1.1 hn (fun q q1 q2 => e q q1 (by have : sp10.length = 41 := rfl; omega)), by rw [a 1 (by decide)]; exact h.1.2⟩, ?_⟩
  unfold RX
  rw [a0, a 2 (by decide), a 4 (by decide), a 5 (by decide), a 6 (by decide), a 7 (by decide), a 15 (by decide), a 16 (by decide), a 17 (by decide), a 18 (by decide), a 19 (by decide)]
  exact h.2
theorem LO_eq {S S' : pS} (h : LO S) (e : ∀ q, 109 ≤ q → q < 111 → S'.2 q = S.2 q) : LO S' := by
  unfold LO
  rw [e 109 (by omega) (by omega), e 110 (by omega) (by omega)]
  exact h
theorem oAJ_at {S : pS} {g : Nat → Int64} (hn : 109 < S.1) (h : S.2 109 = .inl (.long, 1, .inr (.inl g))) : oAJ S 109 .long 0 = some (g 0) := by
  unfold oAJ oArJ; rw [if_pos hn, h]; rfl
theorem oAD_at {S : pS} {g : Nat → UInt64} (hn : 110 < S.1) (h : S.2 110 = .inl (.double, 1, .inr (.inr (.inr (.inl g))))) : oAD S 110 .double 0 = some (g 0) := by
  unfold oAD oArD; rw [if_pos hn, h]; rfl
theorem lo_J {S : pS} (h : LO S) (hn : 111 ≤ S.1) (x : Int64) : ∃ S1, oSJ S 109 .long 0 x = some S1 ∧ S1.1 = S.1 ∧ (∀ q, q ≠ 109 → S1.2 q = S.2 q) ∧ LO S1 ∧ oAJ S1 109 .long 0 = some x := by
  obtain ⟨⟨g, hg⟩, g2, hg2⟩ := h
  refine ⟨(S.1, pu S.2 109 (.inl (.long, 1, .inr (.inl (pu g 0 x))))), ?_, rfl, fun q hq => pu_ne _ _ _ hq, ⟨⟨pu g 0 x, pu_at S.2 109 _⟩, g2, ?_⟩, ?_⟩
  · unfold oSJ oArJ
    rw [if_pos (by omega), hg]; rfl
  · exact (pu_ne S.2 109 (.inl (.long, 1, .inr (.inl (pu g 0 x)))) (j := 110) (by decide)).trans hg2
  · exact oAJ_at (g := pu g 0 x) (show 109 < S.1 by omega) (pu_at S.2 109 _)
theorem lo_D {S : pS} (h : LO S) (hn : 111 ≤ S.1) (x : UInt64) : ∃ S1, oSD S 110 .double 0 x = some S1 ∧ S1.1 = S.1 ∧ (∀ q, q ≠ 110 → S1.2 q = S.2 q) ∧ LO S1 ∧ oAD S1 110 .double 0 = some x := by
  obtain ⟨⟨g, hg⟩, g2, hg2⟩ := h
  refine ⟨(S.1, pu S.2 110 (.inl (.double, 1, .inr (.inr (.inr (.inl (pu g2 0 x))))))), ?_, rfl, fun q hq => pu_ne _ _ _ hq, ⟨⟨g, ?_⟩, pu g2 0 x, pu_at S.2 110 _⟩, ?_⟩
  · unfold oSD oArD
    rw [if_pos (by omega), hg2]; rfl
  · exact (pu_ne S.2 110 (.inl (.double, 1, .inr (.inr (.inr (.inl (pu g2 0 x)))))) (j := 109) (by decide)).trans hg
  · exact oAD_at (g := pu g2 0 x) (show 110 < S.1 by omega) (pu_at S.2 110 _)
/-- behind the class's call -/
def WS (S1 : pS) (A A' : As) : Prop := CS S1 A' ∧ RS S1 68 A ∧ LO S1
theorem WS_out {S' S1 : pS} {A A' : As} (h : WS S' A A') (hn : S1.1 = S'.1) (e : ∀ q, q ≠ 109 → S1.2 q = S'.2 q) (hl : LO S1) : WS S1 A A' :=
  ⟨CS_mid h.1 (by omega) (fun q _ q2 => e q (by omega)), RS_mid h.2.1 (by omega) (fun q q1 q2 => e q (by omega)), hl⟩
theorem WS_outD {S' S1 : pS} {A A' : As} (h : WS S' A A') (hn : S1.1 = S'.1) (e : ∀ q, q ≠ 110 → S1.2 q = S'.2 q) (hl : LO S1) : WS S1 A A' :=
  ⟨CS_mid h.1 (by omega) (fun q _ q2 => e q (by omega)), RS_mid h.2.1 (by omega) (fun q q1 q2 => e q (by omega)), hl⟩
theorem WS_junk {S' : pS} {A A' : As} (h : WS S' A A') (j : Nat) : WS (S'.1 + j, gjunk S'.2 S'.1) A A' := by
  have hn := CS_n h.1
  have e : ∀ q, q < S'.1 → gjunk S'.2 S'.1 q = S'.2 q := fun q hq => if_pos hq
  exact ⟨CS_grow h.1 (Nat.le_add_right _ _) e, RS_grow h.2.1 (Nat.le_add_right _ _) e, LO_eq h.2.2 (fun q q1 q2 => e q (by omega))⟩
theorem WS_of {S S' : pS} {A A' : As} (hI : LI S A) (hn : S.1 ≤ S'.1) (hc : CS S' A') (e : ∀ q, 68 ≤ q → q < 111 → S'.2 q = S.2 q) : WS S' A A' :=
  ⟨hc, RS_mid hI.2.1 hn (fun q q1 q2 => e q q1 (by omega)), LO_eq hI.2.2.2 (fun q q1 q2 => e q (by omega) q2)⟩
/-- a turn -/
def TT (S : pS) (W : Nat → Option (Int32 × pS)) {α : Type} (o : pS → Option (α × pS)) (rd : pS → α → Prop) : Prop := ∀ j, ∃ k S1 b S2 A', W j = some (k, S1) ∧ o S1 = some (b, S2) ∧ F_X10_thrown S2 68 = some k ∧ LI S2 A' ∧ (k = 0 → rd S2 b)
def tdJ (S : pS) (b : Int32) : Prop := oAJ S 109 .long 0 = some b.toInt64
def tdZ (S : pS) (b : Int32) : Prop := oAJ S 109 .long 0 = some (if b = 0 then 0 else 1)
def tdF (S : pS) (b : UInt32) : Prop := oAD S 110 .double 0 = some (FP.f2d b) ∧ oF2d b = some (FP.f2d b) ∧ FP.dcmp (FP.f2d b) (FP.f2d b) = some .eq
def tdD (S : pS) (b : UInt64) : Prop := oAD S 110 .double 0 = some b
theorem thr_eq {S : pS} {A : As} {k : Int32} (h : RS S 68 A) (e : fI (S.2 68) 0 = k) : F_X10_thrown S 68 = some k := by
  unfold F_X10_thrown
  rw [s10_oF h.1.1, s10_g0 h.1.1, Option.bind_some, e]
theorem oAJ_eq {S S' : pS} (hn : S'.1 = S.1) (e : S'.2 109 = S.2 109) : oAJ S' 109 .long 0 = oAJ S 109 .long 0 := by
  unfold oAJ oArJ; rw [hn, e]
theorem oAD_eq {S S' : pS} (hn : S'.1 = S.1) (e : S'.2 110 = S.2 110) : oAD S' 110 .double 0 = oAD S 110 .double 0 := by
  unfold oAD oArD; rw [hn, e]
/-- behind the reference's call -/
theorem WS_ref {S1 S2 : pS} {A A' : As} (h : WS S1 A A') (hA : aOk A') (hb : Bk S1 S2 68 41) (hr : RS S2 68 A') : LI S2 A' := by
  have hn := CS_n h.1
  exact ⟨CS_mid h.1 (by rw [hb.1]; exact Nat.le_refl _) (fun q _ q2 => hb.2 q (by omega)), hr, hA, LO_eq h.2.2 (fun q q1 q2 => hb.2 q (by omega))⟩
theorem tt_J {S : pS} {A : As} {nm : Int32 → String} {o : Option ((Int32 × pS) ⊕ (String × pS))} {o2 : pS → Option (Int32 × pS)} {r : Rs} {K : Nat → String × pS → Option (Int32 × pS)} (hI : LI S A) (hc : cC S nm o r) (hA : aOk r.1)
    (hK : r.2.1 ≠ 0 → ∀ j S', K j (nm r.2.1, S') = some (r.2.1, (S'.1 + j, gjunk S'.2 S'.1))) (hr : ∀ S1, RS S1 68 A → rC S1 68 (o2 S1) r) :
    TT S (fun j => o.bind fun q => Sum.elim (fun q => (oSJ q.2 109 .long (0 : Int32) q.1.toInt64).bind fun S1 => some ((0 : Int32), S1)) (fun q => K j q) q) o2 tdJ := by
  intro j
  obtain ⟨S', n1, c1, e1, rfl⟩ := hc
  have hW := WS_of hI n1 c1 e1
  by_cases h0 : r.2.1 = 0
  · obtain ⟨S1, s1, s2, s3, s4, s5⟩ := lo_J hW.2.2 (CS_n c1) r.2.2.toInt64
    have hW1 := WS_out hW s2 s3 s4
    obtain ⟨b, S2, t1, t2, t3, t4, t5⟩ := hr S1 hW1.2.1
    refine ⟨0, S1, b, S2, r.1, ?_, t1, thr_eq t2 (t4.trans h0), WS_ref hW1 hA t3 t2, fun _ => ?_⟩
    · rw [if_pos h0]
      show (oSJ S' 109 .long 0 r.2.2.toInt64).bind _ = _
      rw [s1]; rfl
    · show oAJ S2 109 .long 0 = _
      rw [oAJ_eq t3.1 (t3.2 109 (Or.inr (by omega))), s5, t5 h0]
  · have hW1 := WS_junk hW j
    obtain ⟨b, S2, t1, t2, t3, t4, t5⟩ := hr _ hW1.2.1
    refine ⟨r.2.1, _, b, S2, r.1, ?_, t1, thr_eq t2 t4, WS_ref hW1 hA t3 t2, fun z => absurd z h0⟩
    rw [if_neg h0]
    exact hK h0 j S'
theorem tt_Z {S : pS} {A : As} {nm : Int32 → String} {o : Option ((Int32 × pS) ⊕ (String × pS))} {o2 : pS → Option (Int32 × pS)} {r : Rs} {K : Nat → String × pS → Option (Int32 × pS)} (hI : LI S A) (hc : cC S nm o r) (hA : aOk r.1)
    (hK : r.2.1 ≠ 0 → ∀ j S', K j (nm r.2.1, S') = some (r.2.1, (S'.1 + j, gjunk S'.2 S'.1))) (hr : ∀ S1, RS S1 68 A → rC S1 68 (o2 S1) r) :
    TT S (fun j => o.bind fun q => Sum.elim (fun q => if q.1 = 0 then ((oSJ q.2 109 .long (0 : Int32) (0 : Int64)).bind fun S1 => some ((0 : Int32), S1)) else ((oSJ q.2 109 .long (0 : Int32) (1 : Int64)).bind fun S1 => some ((0 : Int32), S1))) (fun q => K j q) q) o2 tdZ := by
  intro j
  obtain ⟨S', n1, c1, e1, rfl⟩ := hc
  have hW := WS_of hI n1 c1 e1
  by_cases h0 : r.2.1 = 0
  · obtain ⟨S1, s1, s2, s3, s4, s5⟩ := lo_J hW.2.2 (CS_n c1) (if r.2.2 = 0 then 0 else 1)
    have hW1 := WS_out hW s2 s3 s4
    obtain ⟨b, S2, t1, t2, t3, t4, t5⟩ := hr S1 hW1.2.1
    refine ⟨0, S1, b, S2, r.1, ?_, t1, thr_eq t2 (t4.trans h0), WS_ref hW1 hA t3 t2, fun _ => ?_⟩
    · rw [if_pos h0]
      show (if r.2.2 = 0 then _ else _) = _
      by_cases c : r.2.2 = 0
      · rw [if_pos c] at s1
        rw [if_pos c]
        show (oSJ S' 109 .long 0 0).bind _ = _
        rw [s1]; rfl
      · rw [if_neg c] at s1
        rw [if_neg c]
        show (oSJ S' 109 .long 0 1).bind _ = _
        rw [s1]; rfl
    · show oAJ S2 109 .long 0 = _
      rw [oAJ_eq t3.1 (t3.2 109 (Or.inr (by omega))), s5, t5 h0]
  · have hW1 := WS_junk hW j
    obtain ⟨b, S2, t1, t2, t3, t4, t5⟩ := hr _ hW1.2.1
    refine ⟨r.2.1, _, b, S2, r.1, ?_, t1, thr_eq t2 t4, WS_ref hW1 hA t3 t2, fun z => absurd z h0⟩
    rw [if_neg h0]
    exact hK h0 j S'
theorem tt_F {S : pS} {A A' : As} {k : Int32} {v : UInt32} {nm : Int32 → String} {o : Option ((UInt32 × pS) ⊕ (String × pS))} {o2 : pS → Option (UInt32 × pS)} {K : Nat → String × pS → Option (Int32 × pS)} (hI : LI S A) (hc : cCg S nm o A' k v) (hA : aOk A')
    (hK : k ≠ 0 → ∀ j S', K j (nm k, S') = some (k, (S'.1 + j, gjunk S'.2 S'.1))) (hv : k = 0 → oF2d v = some (FP.f2d v) ∧ FP.dcmp (FP.f2d v) (FP.f2d v) = some .eq) (hr : ∀ S1, RS S1 68 A → rCg S1 68 (o2 S1) A' k v) :
    TT S (fun j => o.bind fun q => Sum.elim (fun q => (oF2d q.1).bind fun d => (oSD q.2 110 .double (0 : Int32) d).bind fun S1 => some ((0 : Int32), S1)) (fun q => K j q) q) o2 tdF := by
  intro j
  obtain ⟨S', ⟨n1, e1⟩, c1, rfl⟩ := hc
  have hW := WS_of hI n1 c1 e1
  by_cases h0 : k = 0
  · obtain ⟨v1, v2⟩ := hv h0
    obtain ⟨S1, s1, s2, s3, s4, s5⟩ := lo_D hW.2.2 (CS_n c1) (FP.f2d v)
    have hW1 := WS_outD hW s2 s3 s4
    obtain ⟨b, S2, t1, t2, t3, t4, t5⟩ := hr S1 hW1.2.1
    refine ⟨0, S1, b, S2, A', ?_, t1, thr_eq t2 (t4.trans h0), WS_ref hW1 hA t3 t2, fun _ => ?_⟩
    · rw [if_pos h0]
      show (oF2d v).bind _ = _
      rw [v1, Option.bind_some, s1]; rfl
    · cases t5 h0
      exact ⟨by rw [oAD_eq t3.1 (t3.2 110 (Or.inr (by omega))), s5], v1, v2⟩
  · have hW1 := WS_junk hW j
    obtain ⟨b, S2, t1, t2, t3, t4, t5⟩ := hr _ hW1.2.1
    refine ⟨k, _, b, S2, A', ?_, t1, thr_eq t2 t4, WS_ref hW1 hA t3 t2, fun z => absurd z h0⟩
    rw [if_neg h0]
    exact hK h0 j S'
theorem tt_D {S : pS} {A A' : As} {k : Int32} {v : UInt64} {nm : Int32 → String} {o : Option ((UInt64 × pS) ⊕ (String × pS))} {o2 : pS → Option (UInt64 × pS)} {K : Nat → String × pS → Option (Int32 × pS)} (hI : LI S A) (hc : cCg S nm o A' k v) (hA : aOk A')
    (hK : k ≠ 0 → ∀ j S', K j (nm k, S') = some (k, (S'.1 + j, gjunk S'.2 S'.1))) (hr : ∀ S1, RS S1 68 A → rCg S1 68 (o2 S1) A' k v) :
    TT S (fun j => o.bind fun q => Sum.elim (fun q => (oSD q.2 110 .double (0 : Int32) q.1).bind fun S1 => some ((0 : Int32), S1)) (fun q => K j q) q) o2 tdD := by
  intro j
  obtain ⟨S', ⟨n1, e1⟩, c1, rfl⟩ := hc
  have hW := WS_of hI n1 c1 e1
  by_cases h0 : k = 0
  · obtain ⟨S1, s1, s2, s3, s4, s5⟩ := lo_D hW.2.2 (CS_n c1) v
    have hW1 := WS_outD hW s2 s3 s4
    obtain ⟨b, S2, t1, t2, t3, t4, t5⟩ := hr S1 hW1.2.1
    refine ⟨0, S1, b, S2, A', ?_, t1, thr_eq t2 (t4.trans h0), WS_ref hW1 hA t3 t2, fun _ => ?_⟩
    · rw [if_pos h0]
      show (oSD S' 110 .double 0 v).bind _ = _
      rw [s1]; rfl
    · show oAD S2 110 .double 0 = _
      rw [oAD_eq t3.1 (t3.2 110 (Or.inr (by omega))), s5, t5 h0]
  · have hW1 := WS_junk hW j
    obtain ⟨b, S2, t1, t2, t3, t4, t5⟩ := hr _ hW1.2.1
    refine ⟨k, _, b, S2, A', ?_, t1, thr_eq t2 t4, WS_ref hW1 hA t3 t2, fun z => absurd z h0⟩
    rw [if_neg h0]
    exact hK h0 j S'
/-- a turn without a wrapper -/
def TP (S : pS) (o1 o2 : pS → Option (Int32 × pS)) : Prop := ∃ b S1 S2 A', o1 S = some (b, S1) ∧ o2 S1 = some (b, S2) ∧ LI S2 A'
theorem tp_of {S : pS} {A : As} {o1 o2 : pS → Option (Int32 × pS)} {r : Rs} (hI : LI S A) (hc : cP S (o1 S) r) (hA : aOk r.1) (h0 : r.2.1 = 0) (hr : ∀ S1, RS S1 68 A → rC S1 68 (o2 S1) r) : TP S o1 o2 := by
  obtain ⟨S', ⟨n1, e1⟩, c1, e2⟩ := hc
  have hW := WS_of hI n1 c1 e1
  obtain ⟨b, S2, t1, t2, t3, t4, t5⟩ := hr S' hW.2.1
  refine ⟨r.2.2, S', S2, r.1, e2, ?_, WS_ref hW hA t3 t2⟩
  rw [t1, t5 h0]
end TRN
