/-! doneShare, meanValue -/
section SHA
variable {S : pS} {R : Nat → Option Nat} {c1 c2 m : Nat} {T : Tr} {A : As}
def rCg {α : Type} (S : pS) (m : Nat) (o : Option (α × pS)) (A' : As) (k : Int32) (v : α) : Prop := ∃ b S', o = some (b, S') ∧ RS S' m A' ∧ Bk S S' m 41 ∧ fI (S'.2 m) 0 = k ∧ (k = 0 → b = v)
def cCg {α : Type} (S : pS) (nm : Int32 → String) (o : Option ((α × pS) ⊕ (String × pS))) (A' : As) (k : Int32) (v : α) : Prop := ∃ S', Fm S S' ∧ CS S' A' ∧ o = some (if k = 0 then .inl (v, S') else .inr (nm k, S'))
theorem leaf_ex (hT : tOk T) : ∀ p, tPres T p = true → ∃ i, i < 61 ∧ lb (famT T p) i = true ∧ tKids T i = [] := by
  refine dag_ind hT _ (fun p hp ih => ?_)
  cases e : tKids T p with
  | nil => exact ⟨p, tOk_lt hT hp, fam_self hT hp, e⟩
  | cons c l =>
    have hc : c ∈ tKids T p := by rw [e]; exact List.mem_cons_self
    obtain ⟨i, i1, i2, i3⟩ := ih c hc
    exact ⟨i, i1, (lb_fam hT hp (by omega)).mpr (Or.inr ⟨c, hc, i2⟩), i3⟩
theorem cntB_pos {F : Nat → Bool} {i : Nat} (hi : i < 61) (h : F i = true) : cntB F ≠ 0 := fun z => by
  have : i ∈ (List.range 61).filter F := List.mem_filter.mpr ⟨List.mem_range.mpr hi, h⟩
  rw [List.eq_nil_of_length_eq_zero z] at this
  cases this
theorem cntB_le (F : Nat → Bool) : cntB F < 62 := by
  have := List.length_filter_le F (List.range 61)
  rw [List.length_range] at this
  unfold cntB
  omega
def shareV (T : Tr) (i : Nat) : UInt32 := FP.fdiv (FP.i2f (famR T i 5)) (FP.i2f (famR T i 4))
def meanV (T : Tr) (i : Nat) : UInt64 := FP.ddiv (FP.i2d (famR T i 1)) (FP.i2d (famR T i 0))
theorem fam4 (T : Tr) (p : Nat) : famR T p 4 = nI (cntB (leafF T (lb (famT T p)))) := rfl
theorem fam5 (T : Tr) (p : Nat) : famR T p 5 = nI (cntB (lfdF T (lb (famT T p)))) := rfl
theorem fam0 (T : Tr) (p : Nat) : famR T p 0 = nI (cntB (lb (famT T p))) := rfl
theorem fam1 (T : Tr) (p : Nat) : famR T p 1 = sumB T (lb (famT T p)) := rfl
theorem fam4_0 (hT : tOk T) {p : Nat} (hp : tPres T p = true) : cntB (leafF T (lb (famT T p))) ≠ 0 := by
  obtain ⟨i, i1, i2, i3⟩ := leaf_ex hT p hp
  refine cntB_pos i1 ?_
  unfold leafF
  rw [i2, decide_eq_true i3]; rfl
theorem fam0_0 (hT : tOk T) {p : Nat} (hp : tPres T p = true) : cntB (lb (famT T p)) ≠ 0 := cntB_pos (tOk_lt hT hp) (fam_self hT hp)
theorem oFdiv_fam (hT : tOk T) {p : Nat} (hp : tPres T p = true) : oFdiv (FP.i2f (famR T p 5)) (FP.i2f (famR T p 4)) = some (shareV T p) := by
  unfold oFdiv shareV
  rw [if_pos]
  rw [fam4]
  exact fp_fdiv _ (cntB_le _) (fam4_0 hT hp)
theorem oDdiv_fam (hT : tOk T) {p : Nat} (hp : tPres T p = true) : oDdiv (FP.i2d (famR T p 1)) (FP.i2d (famR T p 0)) = some (meanV T p) := by
  unfold oDdiv meanV
  rw [if_pos]
  rw [fam0]
  exact fp_ddiv _ (cntB_le _) (fam0_0 hT hp)
def stShare (A : As) (x : Int32) : As × Int32 × UInt32 := match itN (aT A) x with
  | none => (A, 1, 0)
  | some i => (A, 0, shareV (aT A) i)
def stMean (A : As) (x : Int32) : As × Int32 × UInt64 := match itN (aT A) x with
  | none => (A, 1, 0)
  | some i => (A, 0, meanV (aT A) i)
theorem r_share (h : RS S m A) (hA : aOk A) (x : Int32) : rCg S m (F_X10_doneShare S m x) (stShare A x).1 (stShare A x).2.1 (stShare A x).2.2 := by
  unfold F_X10_doneShare stShare F_X10_doneShare_14
  have hT := hA.1.1
  rw [s10_oF h.1.1, r_isItem h.1, Option.bind_some]
  rcases itN_c hT x with ⟨i, hi, rfl, hp, e, e3⟩ | ⟨e, e3⟩
  · rw [e, e3, ite1 rfl]
    obtain ⟨S1, e1, h1, m1, t1⟩ := r_start h 0
    obtain ⟨S2, e5, m2, k2⟩ := r_knows h1.1 hT
    have h2 := RS_fr h1 m2 (by decide) (by decide) (by decide)
    rw [e1, Option.bind_some, s10_g0 h1.1.1, Option.bind_some, t1, if_pos (Int32.le_refl _), e5, Option.bind_some, r_familyOf h2.1 k2 hT hp, Option.bind_some, r_familyOf h2.1 k2 hT hp, Option.bind_some, oFdiv_fam hT hp, Option.bind_some]
    exact ⟨_, _, rfl, h2, Bk_trans (Bk_MR m1) (Bk_MR m2), by rw [m2.2.2.2.2 0 (by decide)]; exact t1, fun _ => rfl⟩
  · rw [e, e3, ite0 rfl]
    obtain ⟨S1, e1, h1, m1, t1⟩ := r_start h 1
    rw [e1, Option.bind_some, s10_g0 h1.1.1, Option.bind_some, t1, if_neg (by decide)]
    exact ⟨_, _, rfl, h1, Bk_MR m1, t1, fun z => absurd z (by show ¬ (1 : Int32) = 0; decide)⟩
theorem r_mean (h : RS S m A) (hA : aOk A) (x : Int32) : rCg S m (F_X10_meanValue S m x) (stMean A x).1 (stMean A x).2.1 (stMean A x).2.2 := by
  unfold F_X10_meanValue stMean F_X10_meanValue_14
  have hT := hA.1.1
  rw [s10_oF h.1.1, r_isItem h.1, Option.bind_some]
  rcases itN_c hT x with ⟨i, hi, rfl, hp, e, e3⟩ | ⟨e, e3⟩
  · rw [e, e3, ite1 rfl]
    obtain ⟨S1, e1, h1, m1, t1⟩ := r_start h 0
    obtain ⟨S2, e5, m2, k2⟩ := r_knows h1.1 hT
    have h2 := RS_fr h1 m2 (by decide) (by decide) (by decide)
    rw [e1, Option.bind_some, s10_g0 h1.1.1, Option.bind_some, t1, if_pos (Int32.le_refl _), e5, Option.bind_some, r_familyOf h2.1 k2 hT hp, Option.bind_some, r_familyOf h2.1 k2 hT hp, Option.bind_some, oDdiv_fam hT hp, Option.bind_some]
    exact ⟨_, _, rfl, h2, Bk_trans (Bk_MR m1) (Bk_MR m2), by rw [m2.2.2.2.2 0 (by decide)]; exact t1, fun _ => rfl⟩
  · rw [e, e3, ite0 rfl]
    obtain ⟨S1, e1, h1, m1, t1⟩ := r_start h 1
    rw [e1, Option.bind_some, s10_g0 h1.1.1, Option.bind_some, t1, if_neg (by decide)]
    exact ⟨_, _, rfl, h1, Bk_MR m1, t1, fun z => absurd z (by show ¬ (1 : Int32) = 0; decide)⟩
theorem c_share (h : CSr S A R c1 c2) (hA : aOk A) (x : Int32) : cCg S (fun _ => nNSE) (F_X9_doneShare S 0 x) (stShare A x).1 (stShare A x).2.1 (stShare A x).2.2 := by
  unfold F_X9_doneShare stShare
  have hT := hA.1.1
  rw [x_oF h.1, c_needItem h, Option.bind_some]
  rcases itN_c hT x with ⟨i, hi, rfl, hp, e, e3⟩ | ⟨e, e3⟩
  · rw [e, e3, if_pos rfl]
    simp only [Sum.elim_inl]
    rw [(c_countLeaves h hA hp).1, Option.bind_some, if_pos (by rw [fam4]; exact nI_n0 (fam4_0 hT hp) (by have := cntB_le (leafF (aT A) (lb (famT (aT A) i))); omega)), (c_countLeaves h hA hp).2, Option.bind_some, oFdiv_fam hT hp, Option.bind_some]
    exact ⟨_, Fm_refl _, cs_of h, rfl⟩
  · rw [e, e3, if_neg (by decide)]
    simp only [Sum.elim_inr]
    exact ⟨_, Fm_refl _, cs_of h, rfl⟩
theorem c_mean (h : CSr S A R c1 c2) (hA : aOk A) (x : Int32) : cCg S (fun _ => nNSE) (F_X9_meanValue S 0 x) (stMean A x).1 (stMean A x).2.1 (stMean A x).2.2 := by
  unfold F_X9_meanValue stMean
  have hT := hA.1.1
  obtain ⟨t, ht⟩ := cs_t h
  have hTt := cs_tr h ht
  rw [x_oF h.1, c_needItem h, Option.bind_some]
  rcases itN_c hT x with ⟨i, hi, rfl, hp, e, e3⟩ | ⟨e, e3⟩
  · have hfam : ∀ j, j < 61 → lb (famT (aT A) i) j = true → tPres (aT A) j = true := fun j hj z => fam_pres hT i hp j (by omega) z
    have ed := oDdiv_fam hT hp
    rw [fam0, fam1] at ed
    rw [e, e3, if_pos rfl]
    simp only [Sum.elim_inl]
    rw [(x_gs h.1).1, Option.bind_some, c_familyOf (cs_sk h) hi hp, Option.bind_some, bitCount_eq _ _ (fam_hi hT hp), Option.bind_some, if_pos (nI_n0 (fam0_0 hT hp) (by have := cntB_le (lb (famT (aT A) i)); omega)), x_g0 h.1 ht, Option.bind_some, c_sumOf hTt hfam, Option.bind_some, ed, Option.bind_some]
    exact ⟨_, Fm_refl _, cs_of h, rfl⟩
  · rw [e, e3, if_neg (by decide)]
    simp only [Sum.elim_inr]
    exact ⟨_, Fm_refl _, cs_of h, rfl⟩
end SHA
