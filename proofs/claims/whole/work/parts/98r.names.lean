/-! names are read; both sides -/
section NMS
variable {S S' : pS} {R : Nat → Option Nat} {c1 c2 m p : Nat} {A : As} {tx : List Int32}
theorem CSr_txt {er : Option Nat} (h : CSr S A R c1 c2) (hn : S'.1 = S.1) (o : ∀ q, ¬ (53 ≤ q ∧ q < 55) → q ≠ 66 → ¬ (55 ≤ q ∧ q < 64) → ¬ (c2 ≤ q ∧ q < c2 + 6) → q ≠ 0 → S'.2 q = S.2 q) (hs : SC S' c2) (x' : XO S' R c1 c2 (erI er)) (xt' : XT S' tx) : CSr S' (aT A, aSv A, aHi A, aHo A, tx, er, aCh A, aCn A) R c1 c2 ∧ Fm S S' := by
  have hcc : (c1 = 35 ∧ c2 = 41) ∨ (c1 = 41 ∧ c2 = 35) := h.2.2.2.2.2.2.2.2.2.2.1
  obtain ⟨z0, z1, z2, z3, z4, z5⟩ := h.2.2.2.2.2.2.2.1
  obtain ⟨y0, y1, y2, y3, y4, y5⟩ := hs
  have l6 : sp6.length = 8 := rfl
  have l1 : sp1.length = 6 := rfl
  have l5 : sp5.length = 6 := rfl
  have l2 : sp2.length = 9 := rfl
  have l8 : sp8.length = 7 := rfl
  obtain ⟨M, hM⟩ : ∃ M : pS, M = (S.1, fun q => if q = 66 ∨ (55 ≤ q ∧ q < 64) ∨ (c2 ≤ q ∧ q < c2 + 6) then S'.2 q else S.2 q) := ⟨_, rfl⟩
  have m1 : M.1 = S.1 := by rw [hM]
  have ma : ∀ q, (q = 66 ∨ (55 ≤ q ∧ q < 64) ∨ (c2 ≤ q ∧ q < c2 + 6)) → M.2 q = S'.2 q := fun q hq => by rw [hM]; exact if_pos hq
  have mb : ∀ q, ¬ (q = 66 ∨ (55 ≤ q ∧ q < 64) ∨ (c2 ≤ q ∧ q < c2 + 6)) → M.2 q = S.2 q := fun q hq => by rw [hM]; exact if_neg hq
  have hM1 : CSr M A R c1 c2 := by
    refine CSr_fr h (by omega) ⟨?_, ?_, ?_, ?_, ?_, ?_⟩ (fun d hd => ?_) (fun q q1 q2 => mb q (by omega))
    · exact sh_fr z0 (by omega) (fun q q1 q2 => mb q (by omega))
    · exact sh_fr y1 (by omega) (fun q q1 q2 => ma q (by omega))
    · exact sh_fr z2 (by omega) (fun q q1 q2 => mb q (by omega))
    · exact sh_fr y3 (by omega) (fun q q1 q2 => ma q (by omega))
    · exact rawA_fr y4 (by omega) (ma 66 (by omega))
    · exact rawA_fr z5 (by omega) (mb 67 (by omega))
    · have := (h.2.1.1 1 d (by omega) hd).1
      exact sh_fr (h.2.1.1 1 d (by omega) hd).2 (by omega) (fun q q1 q2 => mb q (by omega))
  obtain ⟨g1, g2⟩ := CSr_re (S := M) (S' := S') (H := aHo A) (tx := tx) (er := er) (ch := aCh A) (L := aCn A) hM1 (by omega) (fun q q1 q2 q3 q4 q5 => by
    by_cases c : q = 66 ∨ (55 ≤ q ∧ q < 64) ∨ (c2 ≤ q ∧ q < c2 + 6)
    · exact (ma q c).symm
    · rw [mb q c]; exact o q q2 (by omega) (by omega) (by omega) q5) x' (HS_fr h.2.2.2.1 (by omega) (fun q q1 q2 => o q (by omega) (by omega) (by omega) (by omega) (by omega))) (CD_fr h.2.2.2.2.1 (by omega) (fun q q1 q2 => o q (by omega) (by omega) (by omega) (by omega) (by omega))) xt' (CN_fr h.2.2.2.2.2.2.1 (by omega) (fun q q1 q2 => o q (by omega) (by omega) (by omega) (by omega) (by omega)))
  exact ⟨g1, by omega, fun q q1 q2 => o q (by omega) (by omega) (by omega) (by omega) (by omega)⟩
theorem c_forget (h : XT S tx) : ∃ S', F_X7_forget S 53 = some S' ∧ XT S' [] ∧ S'.1 = S.1 ∧ (∀ q, q ≠ 53 → S'.2 q = S.2 q) ∧ ∀ b sp, Sh S b sp → shT sp = true → b ≠ 53 → Sh S' b sp := by
  unfold F_X7_forget
  have k := s7_k1 h.1 h.1 0
  rw [s7_oF h.1, s7_p1 h.1, Option.bind_some]
  exact ⟨_, rfl, ⟨k, s7_v1 h.1 0, fun k x hk => by simp at hk⟩, rfl, fun q hq => wF_ne _ _ _ hq, fun b sp hb hs hn => sh_wF hb hs hn _ _⟩
theorem c_failT {er : Int32} (x : XO S R c1 c2 er) (h : XP S tx p) : ∃ S', F_X9_failText S 0 = some (.inr (nIAE, S')) ∧ XO S' R c1 c2 (nI p) ∧ XT S' [] ∧ S'.1 = S.1 ∧ ∀ q, q ≠ 0 → q ≠ 53 → S'.2 q = S.2 q := by
  unfold F_X9_failText
  have ep : F_X7_position S 53 = some (nI p) := by
    unfold F_X7_position
    rw [s7_oF h.1.1, s7_g2 h.1.1, Option.bind_some, h.2]
  obtain ⟨S1, e1, n1, o1, x1⟩ := x_p15 x (nI p)
  have t1 : XT S1 tx := XT_fr h.1 (by omega) (fun q q1 q2 => o1 q (by omega))
  obtain ⟨S2, e2, t2, n2, o2, -⟩ := c_forget t1
  rw [x_oF x, (x_gs x).2.2.2.2.2.2.2.1, Option.bind_some, ep, Option.bind_some, e1, Option.bind_some, (x_gs x1).2.2.2.2.2.2.2.1, Option.bind_some, e2, Option.bind_some]
  exact ⟨S2, rfl, XO_fr x1 (by omega) (o2 0 (by decide)), t2, by omega, fun q q1 q2 => (o2 q q2).trans (o1 q q1)⟩
def nmOk (tx : List Int32) : Bool := decide (0 < ltC tx 10 0) && decide (ltC tx 10 0 = tx.length)
theorem nmOk_iff (tx : List Int32) : nmOk tx = true ↔ 0 < ltC tx 10 0 ∧ ltC tx 10 0 = tx.length := by
  unfold nmOk
  rw [Bool.and_eq_true, decide_eq_true_eq, decide_eq_true_eq]
theorem nmOk_nm (h : nmOk tx = true) : tx.length ≤ 10 ∧ ∀ x, x ∈ tx → 97 ≤ x ∧ x ≤ 122 := by
  obtain ⟨h1, h2⟩ := (nmOk_iff tx).mp h
  obtain ⟨h3, h4, h5⟩ := ltC_sp (tx := tx) 10 0
  refine ⟨by omega, fun x hx => ?_⟩
  obtain ⟨i, hi, e⟩ := List.mem_iff_getElem.mp hx
  have h6 := h4 i (by omega)
  rw [Nat.zero_add] at h6
  have h7 := nxt_lt hi
  rw [List.getElem?_eq_getElem hi, e] at h7
  rw [← Option.some.inj h7] at h6
  exact (isLt_iff x).mp h6
theorem txOk_of (hA : aOk A) : txOk (aTx A) := ⟨hA.2.2.2.2.2.2.1, hA.2.2.2.2.2.2.2.1⟩
theorem c_takeName (h : CSr S A R c1 c2) (hA : aOk A) : if nmOk (aTx A) = true then ∃ S', F_X9_takeName S 0 = some (.inl (nI (aTx A).length, S')) ∧ CSr S' (aSetTx A []) R c1 c2 ∧ Fm S S' ∧ ∀ (j : Nat) x, (aTx A)[j]? = some x → cI (S'.2 66) j = x
    else ∃ S', F_X9_takeName S 0 = some (.inr (nIAE, S')) ∧ CSr S' (aSetEr (aSetTx A []) (some (ltC (aTx A) 10 0))) R c1 c2 ∧ Fm S S' := by
  have ht := txOk_of hA
  have hl := ht.1
  have hcc : (c1 = 35 ∧ c2 = 41) ∨ (c1 = 41 ∧ c2 = 35) := h.2.2.2.2.2.2.2.2.2.2.1
  obtain ⟨z0, z1, z2, z3, z4, z5⟩ := h.2.2.2.2.2.2.2.1
  have l6 : sp6.length = 8 := rfl
  have l1 : sp1.length = 6 := rfl
  have l5 : sp5.length = 6 := rfl
  have l2 : sp2.length = 9 := rfl
  unfold F_X9_takeName
  obtain ⟨e1, x1⟩ := c_goto h.2.2.2.2.2.1 0
  have o1 : ∀ q, q ≠ 53 → (wF S 53 2 (.int (nI 0))).2 q = S.2 q := fun q hq => wF_ne _ _ _ hq
  have n1 : (wF S 53 2 (.int (nI 0))).1 = S.1 := rfl
  have es : F_X7_start S 53 = some (wF S 53 2 (.int (nI 0))) := by
    unfold F_X7_start
    rw [s7_oF h.2.2.2.2.2.1.1, show oPI S 53 7 2 (0 : Int32) = _ from e1, Option.bind_some]
  generalize wF S 53 2 (.int (nI 0)) = S1 at *
  have xo1 := XO_fr h.1 (S' := S1) (by omega) (o1 0 (by decide))
  obtain ⟨S2, e2, x2, n2, o2, w2, l2', -, -⟩ := c_takeLetters (a := 66) (N := 10) (o := 0) x1 ht (Nat.zero_le _) (rawA_fr z4 (by omega) (o1 66 (by decide))) (by decide) (by decide) (by decide) (by decide)
  have xo2 := XO_fr xo1 (S' := S2) (by omega) (o2 0 (by decide) (by decide))
  have e2' : F_X7_takeLetters S1 53 66 (0 : Int32) = some (nI (ltC (aTx A) 10 0), S2) := e2
  rw [Nat.zero_add] at x2
  have o12 : ∀ q, q ≠ 66 → q ≠ 53 → S2.2 q = S.2 q := fun q q1 q2 => (o2 q q1 q2).trans (o1 q q2)
  have hle := ltC_le (tx := aTx A) (n := 10) (Nat.zero_le (aTx A).length)
  rw [Nat.zero_add] at hle
  -- a name, or not
  have fail : ∀ v, ∃ S', F_X9_takeName_34 S2 0 v = some (.inr (nIAE, S')) ∧ CSr S' (aSetEr (aSetTx A []) (some (ltC (aTx A) 10 0))) R c1 c2 ∧ Fm S S' := by
    intro v
    unfold F_X9_takeName_34
    obtain ⟨S3, e3, xo3, t3, n3, o3⟩ := c_failT xo2 x2
    rw [e3, Option.bind_some]
    have o13 : ∀ q, q ≠ 66 → q ≠ 53 → q ≠ 0 → S3.2 q = S.2 q := fun q q1 q2 q3 => (o3 q q3 q2).trans (o12 q q1 q2)
    obtain ⟨h3, f3⟩ := CSr_txt (S' := S3) (tx := []) (er := some (ltC (aTx A) 10 0)) h (by omega) (fun q q1 q2 q3 q4 q5 => o13 q q2 (by omega) q5) ⟨sh_fr z0 (by omega) (fun q q1 q2 => o13 q (by omega) (by omega) (by omega)), sh_fr z1 (by omega) (fun q q1 q2 => o13 q (by omega) (by omega) (by omega)), sh_fr z2 (by omega) (fun q q1 q2 => o13 q (by omega) (by omega) (by omega)), sh_fr z3 (by omega) (fun q q1 q2 => o13 q (by omega) (by omega) (by omega)), rawA_fr w2 (by omega) (o3 66 (by decide) (by decide)), rawA_fr z5 (by omega) (o13 67 (by decide) (by decide) (by decide))⟩ xo3 t3
    exact ⟨S3, rfl, h3, f3⟩
  have good : ∃ S', F_X9_takeName_38 S2 0 (nI (ltC (aTx A) 10 0)) = some (.inl (nI (ltC (aTx A) 10 0), S')) ∧ CSr S' (aSetTx A []) R c1 c2 ∧ Fm S S' ∧ ∀ i, i < ltC (aTx A) 10 0 → cI (S'.2 66) i = nxt (aTx A) i := by
    unfold F_X9_takeName_38
    obtain ⟨S3, e3, t3, n3, o3, -⟩ := c_forget x2.1
    rw [(x_gs xo2).2.2.2.2.2.2.2.1, Option.bind_some, e3, Option.bind_some]
    have o13 : ∀ q, q ≠ 66 → q ≠ 53 → S3.2 q = S.2 q := fun q q1 q2 => (o3 q q2).trans (o12 q q1 q2)
    obtain ⟨h3, f3⟩ := CSr_txt (S' := S3) (tx := []) (er := aEr A) h (by omega) (fun q q1 q2 q3 q4 q5 => o13 q q2 (by omega)) ⟨sh_fr z0 (by omega) (fun q q1 q2 => o13 q (by omega) (by omega)), sh_fr z1 (by omega) (fun q q1 q2 => o13 q (by omega) (by omega)), sh_fr z2 (by omega) (fun q q1 q2 => o13 q (by omega) (by omega)), sh_fr z3 (by omega) (fun q q1 q2 => o13 q (by omega) (by omega)), rawA_fr w2 (by omega) (o3 66 (by decide)), rawA_fr z5 (by omega) (o13 67 (by decide) (by decide))⟩ (XO_fr h.1 (by omega) (o13 0 (by decide) (by decide))) t3
    refine ⟨S3, rfl, h3, f3, fun i hi => ?_⟩
    rw [o3 66 (by decide)]
    have := l2' i hi
    rw [Nat.zero_add] at this
    exact this
  have eend : F_X7_isAtEnd S2 53 = some (if ltC (aTx A) 10 0 = (aTx A).length then 1 else 0) := by
    unfold F_X7_isAtEnd
    rw [s7_oF x2.1.1, s7_g2 x2.1.1, Option.bind_some, s7_g1 x2.1.1, Option.bind_some, x2.2, x2.1.2.1]
    by_cases c : ltC (aTx A) 10 0 = (aTx A).length
    · rw [if_neg (nI_nlt (by omega) (by omega)), if_pos c]
    · rw [if_pos (nI_lt (by omega) (by omega)), if_neg c]
  rw [x_oF h.1, (x_gs h.1).2.2.2.2.2.2.2.1, Option.bind_some, es, Option.bind_some, (x_gs xo1).2.2.2.2.2.2.2.1, Option.bind_some, (x_gs xo1).2.2.2.2.2.2.2.2.2.2.1, Option.bind_some, e2', Option.bind_some]
  dsimp only
  by_cases c0 : ltC (aTx A) 10 0 = 0
  · rw [if_pos (show nI (ltC (aTx A) 10 0) = 0 by rw [c0]; rfl), if_neg (fun z => by have := (nmOk_iff _).mp z; omega)]
    exact fail _
  · rw [if_neg (nI_n0 c0 (by omega)), (x_gs xo2).2.2.2.2.2.2.2.1, Option.bind_some, eend, Option.bind_some]
    by_cases c : ltC (aTx A) 10 0 = (aTx A).length
    · rw [itp5 c, if_pos ((nmOk_iff _).mpr ⟨by omega, c⟩), ← c]
      obtain ⟨S', a1, a2, a3, a4⟩ := good
      refine ⟨S', a1, a2, a3, fun j x hx => ?_⟩
      have hj := (List.getElem?_eq_some_iff.mp hx).1
      rw [a4 j (by omega)]
      rw [nxt_lt hj] at hx
      exact Option.some.inj hx
    · rw [itp4 c, if_neg (fun z => c ((nmOk_iff _).mp z).2)]
      exact fail _
/-! the reference -/
theorem RX_tx (h : RX S m A) {S1 : pS} {ks : List Nat} (hM : MR S S1 m [] ks) (hk : ∀ k, k ∈ ks → k = 10 ∨ k ∉ rxK) (h0 : fI (S1.2 m) 10 = 0) : RX S1 m (aSetTx A []) := by
  have f : ∀ k, k ∈ rxK → k ≠ 10 → fI (S1.2 m) k = fI (S.2 m) k := fun k hk' hn => hM.2.2.2.2 k (fun z => (hk k z).elim hn (fun w => w hk'))
  have a : ∀ j, j ≠ 0 → S1.2 (m + j) = S.2 (m + j) := fun j h0 => hM.2.2.2.1 j (by simp) h0
  obtain ⟨x1, x2, x3, x4, x5, x6, x7, x8, x9, x10, x11, x12, x13⟩ := h
  unfold RX
  rw [f 5 (by decide) (by decide), f 6 (by decide) (by decide), f 8 (by decide) (by decide), f 11 (by decide) (by decide), f 13 (by decide) (by decide), f 30 (by decide) (by decide), a 2 (by decide), a 4 (by decide), a 5 (by decide), a 7 (by decide), a 15 (by decide), a 16 (by decide), a 17 (by decide), a 18 (by decide), a 19 (by decide)]
  exact ⟨x1, x2, x3, x4, x5, x6, h0, fun k x hk => by simp [aTx, aSetTx] at hk, x9, x10, x11, x12, x13⟩
theorem r_begins (h : RS S m A) : ∃ S', F_X10_begins S m = some S' ∧ RS S' m (aSetTx A []) ∧ MR S S' m [] [10, 21, 22, 23] ∧ RP S' m (aTx A) 0 true := by
  unfold F_X10_begins
  have k1 := s10_k21 h.1.1 h.1.1 0
  have m1 := r_setF h.1.1 0 k1
  have v1 := s10_v21 h.1.1 0
  rw [s10_oF h.1.1, s10_p21 h.1.1, Option.bind_some]
  generalize wF S m 21 (.int 0) = S1 at *
  have x10 : fI (S1.2 m) 10 = nI (aTx A).length := by rw [m1.2.2.2.2 10 (by decide)]; exact h.2.2.2.2.2.2.2.1
  have k2 := s10_k22 k1 k1 (nI (aTx A).length)
  have m2 := r_setF k1 (nI (aTx A).length) k2
  have v2 := s10_v22 k1 (nI (aTx A).length)
  rw [s10_g10 k1, Option.bind_some, x10, s10_p22 k1, Option.bind_some]
  generalize wF S1 m 22 (.int (nI (aTx A).length)) = S2 at *
  have k3 := s10_k10 k2 k2 0
  have m3 := r_setF k2 0 k3
  have v3 := s10_v10 k2 0
  rw [s10_p10 k2, Option.bind_some]
  generalize wF S2 m 10 (.int 0) = S3 at *
  have k4 := s10_k23 k3 k3 1
  have m4 := r_setF k3 1 k4
  have v4 := s10_v23 k3 1
  rw [s10_q23 k3 (Or.inr rfl), Option.bind_some]
  generalize wF S3 m 23 (.int 1) = S4 at *
  have mm : MR S S4 m [] [10, 21, 22, 23] := MR_trans (MR_sub m1 (by decide) (by decide)) (MR_trans (MR_sub m2 (by decide) (by decide)) (MR_trans (MR_sub m3 (by decide) (by decide)) (MR_sub m4 (by decide) (by decide))))
  refine ⟨S4, rfl, ⟨MR_RR mm (by decide) h.1, RX_tx h.2 mm (by decide) (by rw [m4.2.2.2.2 10 (by decide)]; exact v3)⟩, mm, ?_, ?_, v4, fun k x hk => ?_⟩
  · rw [m4.2.2.2.2 21 (by decide), m3.2.2.2.2 21 (by decide), m2.2.2.2.2 21 (by decide)]; exact v1
  · rw [m4.2.2.2.2 22 (by decide), m3.2.2.2.2 22 (by decide)]; exact v2
  · rw [mm.2.2.2.1 6 (by decide) (by decide)]; exact h.2.2.2.2.2.2.2.2.1 k x hk
/-- the error position is put -/
theorem RX_er (h : RX S m A) {S1 : pS} {ks : List Nat} (hM : MR S S1 m [] ks) (hk : ∀ k, k ∈ ks → k = 11 ∨ k ∉ rxK) {e : Nat} (h0 : fI (S1.2 m) 11 = nI e) : RX S1 m (aSetEr A (some e)) := by
  have f : ∀ k, k ∈ rxK → k ≠ 11 → fI (S1.2 m) k = fI (S.2 m) k := fun k hk' hn => hM.2.2.2.2 k (fun z => (hk k z).elim hn (fun w => w hk'))
  have a : ∀ j, j ≠ 0 → S1.2 (m + j) = S.2 (m + j) := fun j h0 => hM.2.2.2.1 j (by simp) h0
  obtain ⟨x1, x2, x3, x4, x5, x6, x7, x8, x9, x10, x11, x12, x13⟩ := h
  unfold RX
  rw [f 5 (by decide) (by decide), f 6 (by decide) (by decide), f 8 (by decide) (by decide), f 10 (by decide) (by decide), f 13 (by decide) (by decide), f 30 (by decide) (by decide), a 2 (by decide), a 4 (by decide), a 5 (by decide), a 6 (by decide), a 7 (by decide), a 15 (by decide), a 16 (by decide), a 17 (by decide), a 18 (by decide), a 19 (by decide)]
  exact ⟨x1, x2, x3, x4, x5, x6, x7, x8, h0, x10, x11, x12, x13⟩
theorem r_isName (h : RS S m A) (hA : aOk A) : if nmOk (aTx A) = true then ∃ S', F_X10_isName S m = some (1, S') ∧ RS S' m (aSetTx A []) ∧ MR S S' m [] [10, 11, 21, 22, 23] ∧ fI (S'.2 m) 22 = nI (aTx A).length ∧ ∀ (k : Nat) x, (aTx A)[k]? = some x → cI (S'.2 (m + 6)) k = x
    else ∃ S', F_X10_isName S m = some (0, S') ∧ RS S' m (aSetEr (aSetTx A []) (some (ltC (aTx A) 10 0))) ∧ MR S S' m [] [10, 11, 21, 22, 23] := by
  have ht := txOk_of hA
  have hl := ht.1
  unfold F_X10_isName
  obtain ⟨S1, e1, h1, m1, r1⟩ := r_begins h
  obtain ⟨S2, e2, m2, r2⟩ := r_letters h1.1.1 r1 ht (Nat.zero_le _)
  have h2 := RS_fr h1 m2 (by decide) (by decide) (by decide)
  have hle := ltC_le (tx := aTx A) (n := 10) (Nat.zero_le (aTx A).length)
  rw [Nat.zero_add] at hle
  have el : letR (aTx A) 0 true = (ltC (aTx A) 10 0, decide (0 < ltC (aTx A) 10 0) && !(decide (ltC (aTx A) 10 0 = 10) && isLt (nxt (aTx A) (0 + 10)))) := by
    unfold letR
    rw [if_pos rfl, Nat.zero_add, Nat.zero_add]
  rw [el] at r2
  dsimp only at r2
  have m12 : MR S S2 m [] [10, 11, 21, 22, 23] := MR_trans (MR_sub m1 (by decide) (by decide)) (MR_sub m2 (by decide) (by decide))
  rw [s10_oF h.1.1, e1, Option.bind_some, e2, Option.bind_some]
  dsimp only
  rw [s10_g23 h2.1.1, Option.bind_some, r2.2.2.1]
  have bad : nmOk (aTx A) = false → ∃ S', F_X10_isName_33 S2 m m 0 = some (0, S') ∧ RS S' m (aSetEr (aSetTx A []) (some (ltC (aTx A) 10 0))) ∧ MR S S' m [] [10, 11, 21, 22, 23] := by
    intro _
    unfold F_X10_isName_33 F_X10_isName_55
    obtain ⟨S3, e3, m3, r3⟩ := RP_g h2.1.1 r2 false
    have h3 := RS_fr h2 m3 (by decide) (by decide) (by decide)
    rw [show oPZ S2 m 10 23 (0 : Int32) = some S3 from e3, Option.bind_some, s10_g23 h3.1.1, Option.bind_some, r3.2.2.1, ite0 rfl, s10_g21 h3.1.1, Option.bind_some, r3.1, s10_p11 h3.1.1, Option.bind_some]
    have k4 := s10_k11 h3.1.1 h3.1.1 (nI (ltC (aTx A) 10 0))
    have v4 := s10_v11 h3.1.1 (nI (ltC (aTx A) 10 0))
    have m4 := r_setF h3.1.1 (nI (ltC (aTx A) 10 0)) k4
    generalize wF S3 m 11 (.int (nI (ltC (aTx A) 10 0))) = S4 at *
    have f23 : fI (S4.2 m) 23 = 0 := by rw [m4.2.2.2.2 23 (by decide)]; exact r3.2.2.1
    rw [s10_g23 k4, Option.bind_some, f23]
    exact ⟨S4, rfl, ⟨MR_RR m4 (by decide) h3.1, RX_er h3.2 m4 (by decide) v4⟩, MR_trans m12 (MR_trans (MR_sub m3 (by decide) (by decide)) (MR_sub m4 (by decide) (by decide)))⟩
  have good : nmOk (aTx A) = true → ∃ S', F_X10_isName_33 S2 m m 1 = some (1, S') ∧ RS S' m (aSetTx A []) ∧ MR S S' m [] [10, 11, 21, 22, 23] ∧ fI (S'.2 m) 22 = nI (aTx A).length ∧ ∀ (k : Nat) x, (aTx A)[k]? = some x → cI (S'.2 (m + 6)) k = x := by
    intro _
    unfold F_X10_isName_33 F_X10_isName_55
    obtain ⟨S3, e3, m3, r3⟩ := RP_g h2.1.1 r2 true
    have h3 := RS_fr h2 m3 (by decide) (by decide) (by decide)
    rw [show oPZ S2 m 10 23 (1 : Int32) = some S3 from e3, Option.bind_some, s10_g23 h3.1.1, Option.bind_some, r3.2.2.1, ite1 rfl, s10_g11 h3.1.1, Option.bind_some, s10_p11 h3.1.1, Option.bind_some]
    have k4 := s10_k11 h3.1.1 h3.1.1 (fI (S3.2 m) 11)
    have v4 := s10_v11 h3.1.1 (fI (S3.2 m) 11)
    have m4 := r_setF h3.1.1 (fI (S3.2 m) 11) k4
    generalize hS4 : wF S3 m 11 (.int (fI (S3.2 m) 11)) = S4 at *
    have r4 : RP S4 m (aTx A) (ltC (aTx A) 10 0) true := RP_fr r3 m4 (by decide) (by decide)
    have h4 : RX S4 m (aSetTx A []) := by
      have f : ∀ k, fI (S4.2 m) k = fI (S3.2 m) k := fun k => by
        by_cases c : k = 11
        · rw [c]; exact v4
        · exact m4.2.2.2.2 k (by simpa using c)
      have a : ∀ j, j ≠ 0 → S4.2 (m + j) = S3.2 (m + j) := fun j h0 => m4.2.2.2.1 j (by simp) h0
      unfold RX
      rw [f 5, f 6, f 8, f 10, f 11, f 13, f 30, a 2 (by decide), a 4 (by decide), a 5 (by decide), a 6 (by decide), a 7 (by decide), a 15 (by decide), a 16 (by decide), a 17 (by decide), a 18 (by decide), a 19 (by decide)]
      exact h3.2
    rw [s10_g23 k4, Option.bind_some, r4.2.2.1]
    exact ⟨S4, rfl, ⟨MR_RR m4 (by decide) h3.1, h4⟩, MR_trans m12 (MR_trans (MR_sub m3 (by decide) (by decide)) (MR_sub m4 (by decide) (by decide))), r4.2.1, r4.2.2.2⟩
  cases hg : (decide (0 < ltC (aTx A) 10 0) && !(decide (ltC (aTx A) 10 0 = 10) && isLt (nxt (aTx A) (0 + 10))))
  · have hno : nmOk (aTx A) = false := by
      rw [Bool.eq_false_iff]
      intro z
      obtain ⟨z1, z2⟩ := (nmOk_iff _).mp z
      rw [decide_eq_true z1, Bool.true_and, Bool.not_eq_false', Bool.and_eq_true, decide_eq_true_eq] at hg
      rw [nxt_ge (by omega)] at hg
      exact absurd hg.2 (by decide)
    rw [ite0 rfl, if_neg (by rw [hno]; decide)]
    unfold F_X10_isName_32
    exact bad hno
  · rw [ite1 rfl, s10_g21 h2.1.1, Option.bind_some, r2.1, s10_g22 h2.1.1, Option.bind_some, r2.2.1]
    rw [Bool.and_eq_true, decide_eq_true_eq] at hg
    by_cases c : ltC (aTx A) 10 0 = (aTx A).length
    · have hy := (nmOk_iff _).mpr ⟨hg.1, c⟩
      rw [if_pos hy, if_neg (show ¬ ¬ nI (ltC (aTx A) 10 0) = nI (aTx A).length from fun z => z (by rw [c]))]
      exact good hy
    · have hno : nmOk (aTx A) = false := by
        rw [Bool.eq_false_iff]
        exact fun z => c ((nmOk_iff _).mp z).2
      rw [if_neg (show ¬ nmOk (aTx A) = true from by rw [hno]; decide), if_pos (show ¬ nI (ltC (aTx A) 10 0) = nI (aTx A).length from fun z => c ((nI_eq (by omega) (by omega)).mp z))]
      unfold F_X10_isName_32
      exact bad hno
end NMS
