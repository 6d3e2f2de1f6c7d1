/-! item: both sides -/
section ITM
variable {S : pS} {R : Nat → Option Nat} {c1 c2 a b m : Nat} {T : Tr} {A : As}
def itemV (T : Tr) (i : Nat) (w : Int32) : Option Int32 :=
  if w = 0 then some (nI (par T i).length) else if w = 1 then some (nI (tKids T i).length) else if w = 2 then some (nI (plcT T i)) else if w = 3 then some (nI (tName T i).length) else if w = 4 then some (tVal T i) else if w = 5 then some (tDay T i)
  else if w = 6 then some (if tDone T i = true then 1 else 0) else if w = 7 then some (if tFold T i = true then 1 else 0) else if w = 8 then some (famR T i 0) else if w = 9 then some (famR T i 1) else if w = 10 then some (famR T i 2) else if w = 11 then some (famR T i 3) else if w = 12 then some (famR T i 4) else if w = 13 then some (famR T i 5)
  else if w = 14 then some (nI (wayT T i)) else none
def stItem (A : As) (x w : Int32) : Rs := match itN (aT A) x with
  | none => (A, 1, 0)
  | some i => match itemV (aT A) i w with
    | none => (A, 2, 0)
    | some v => (A, 0, v)
theorem in813 {S : pS} {w : Int32} (h : w ≠ 8 ∧ w ≠ 9 ∧ w ≠ 10 ∧ w ≠ 11 ∧ w ≠ 12 ∧ w ≠ 13) : F_X10_in S w 8 13 = some 0 := by
  rw [in_eq, if_neg]
  rintro ⟨z1, z2⟩
  rw [Int32.lt_iff_toInt_lt] at z1 z2
  have e8 : (8 : Int32).toInt = 8 := by decide
  have e13 : (13 : Int32).toInt = 13 := by decide
  rw [e8] at z1
  rw [e13] at z2
  have k : ∀ n : Int, w.toInt = n → ∀ l : Int32, l.toInt = n → w = l := fun n h1 l h2 => Int32.toInt_inj.mp (h1.trans h2.symm)
  have : w.toInt = 8 ∨ w.toInt = 9 ∨ w.toInt = 10 ∨ w.toInt = 11 ∨ w.toInt = 12 ∨ w.toInt = 13 := by omega
  rcases this with z | z | z | z | z | z
  · exact h.1 (k _ z 8 (by decide))
  · exact h.2.1 (k _ z 9 (by decide))
  · exact h.2.2.1 (k _ z 10 (by decide))
  · exact h.2.2.2.1 (k _ z 11 (by decide))
  · exact h.2.2.2.2.1 (k _ z 12 (by decide))
  · exact h.2.2.2.2.2 (k _ z 13 (by decide))
theorem r_item (h : RS S m A) (hA : aOk A) (x w : Int32) : rC S m (F_X10_item S m x w) (stItem A x w) := by
  unfold F_X10_item stItem
  have hT := hA.1.1
  obtain ⟨S1, e1, h1, m1, t1⟩ := r_start h 0
  rw [s10_oF h.1.1, e1, Option.bind_some, r_isItem h1.1, Option.bind_some]
  rcases itN_c hT x with ⟨i, hi, rfl, hp, e, e3⟩ | ⟨e, e3⟩
  · rw [e, e3, ite5 rfl]
    obtain ⟨S2, e5, m2, k2⟩ := r_knows h1.1 hT
    have h2 := RS_fr h1 m2 (by decide) (by decide) (by decide)
    have b2 := Bk_trans (Bk_MR m1) (Bk_MR m2)
    have t2 : fI (S2.2 m) 0 = 0 := by rw [m2.2.2.2.2 0 (by decide)]; exact t1
    have ok : ∀ v, rC S m (some (v, S2)) (A, 0, v) := fun v => ⟨_, _, rfl, h2, b2, t2, fun _ => rfl⟩
    have hw := h2.1.2.2.2 i hp
    rw [e5, Option.bind_some]
    dsimp only
    unfold itemV
    by_cases w0 : w = 0
    · rw [if_pos w0, if_pos w0, r_parents h2.1 hT hi, Option.bind_some]; exact ok _
    rw [if_neg w0, if_neg w0]
    by_cases w1 : w = 1
    · rw [if_pos w1, if_pos w1, s10_g1 h2.1.1, Option.bind_some, li_916, nI_add, s10_r1 h2.1.1 (by omega), Option.bind_some, hw.2.2.2.2.2.1]; exact ok _
    rw [if_neg w1, if_neg w1]
    by_cases w2 : w = 2
    · rw [if_pos w2, if_pos w2, s10_g16 h2.1.1, Option.bind_some, s10_r16 h2.1.1 hi, Option.bind_some, (k2.2.2 i hi).1]; exact ok _
    rw [if_neg w2, if_neg w2]
    by_cases w3 : w = 3
    · rw [if_pos w3, if_pos w3, s10_g1 h2.1.1, Option.bind_some, li_245, nI_add, s10_r1 h2.1.1 (by omega), Option.bind_some, hw.2.2.2.1]; exact ok _
    rw [if_neg w3, if_neg w3]
    by_cases w4 : w = 4
    · rw [if_pos w4, if_pos w4, s10_g1 h2.1.1, Option.bind_some, li_62, nI_add, s10_r1 h2.1.1 (by omega), Option.bind_some, hw.1]; exact ok _
    rw [if_neg w4, if_neg w4]
    by_cases w5 : w = 5
    · rw [if_pos w5, if_pos w5, s10_g1 h2.1.1, Option.bind_some, li_123, nI_add, s10_r1 h2.1.1 (by omega), Option.bind_some, hw.2.1]; exact ok _
    rw [if_neg w5, if_neg w5]
    by_cases w6 : w = 6
    · rw [if_pos w6, if_pos w6, r_has0 h2.1 hi hp, Option.bind_some]
      cases tDone (aT A) i
      · exact ok _
      · exact ok _
    rw [if_neg w6, if_neg w6]
    by_cases w7 : w = 7
    · rw [if_pos w7, if_pos w7, r_has1 h2.1 hi hp, Option.bind_some]
      cases tFold (aT A) i
      · exact ok _
      · exact ok _
    rw [if_neg w7, if_neg w7]
    by_cases w8 : w = 8
    · subst w8
      have ei : F_X10_in S2 8 8 13 = some 1 := rfl
      have es : (8 : Int32) - 8 = 0 := rfl
      rw [if_pos rfl, if_pos rfl, ei, Option.bind_some, if_neg (by decide), es, r_familyOf h2.1 k2 hT hp, Option.bind_some]; exact ok _
    rw [if_neg w8, if_neg w8]
    by_cases w9 : w = 9
    · subst w9
      have ei : F_X10_in S2 9 8 13 = some 1 := rfl
      have es : (9 : Int32) - 8 = 1 := rfl
      rw [if_pos rfl, if_pos rfl, ei, Option.bind_some, if_neg (by decide), es, r_familyOf h2.1 k2 hT hp, Option.bind_some]; exact ok _
    rw [if_neg w9, if_neg w9]
    by_cases w10 : w = 10
    · subst w10
      have ei : F_X10_in S2 10 8 13 = some 1 := rfl
      have es : (10 : Int32) - 8 = 2 := rfl
      rw [if_pos rfl, if_pos rfl, ei, Option.bind_some, if_neg (by decide), es, r_familyOf h2.1 k2 hT hp, Option.bind_some]; exact ok _
    rw [if_neg w10, if_neg w10]
    by_cases w11 : w = 11
    · subst w11
      have ei : F_X10_in S2 11 8 13 = some 1 := rfl
      have es : (11 : Int32) - 8 = 3 := rfl
      rw [if_pos rfl, if_pos rfl, ei, Option.bind_some, if_neg (by decide), es, r_familyOf h2.1 k2 hT hp, Option.bind_some]; exact ok _
    rw [if_neg w11, if_neg w11]
    by_cases w12 : w = 12
    · subst w12
      have ei : F_X10_in S2 12 8 13 = some 1 := rfl
      have es : (12 : Int32) - 8 = 4 := rfl
      rw [if_pos rfl, if_pos rfl, ei, Option.bind_some, if_neg (by decide), es, r_familyOf h2.1 k2 hT hp, Option.bind_some]; exact ok _
    rw [if_neg w12, if_neg w12]
    by_cases w13 : w = 13
    · subst w13
      have ei : F_X10_in S2 13 8 13 = some 1 := rfl
      have es : (13 : Int32) - 8 = 5 := rfl
      rw [if_pos rfl, if_pos rfl, ei, Option.bind_some, if_neg (by decide), es, r_familyOf h2.1 k2 hT hp, Option.bind_some]; exact ok _
    rw [if_neg w13, if_neg w13]
    by_cases w14 : w = 14
    · rw [if_pos w14, if_pos w14, s10_g17 h2.1.1, Option.bind_some, s10_r17 h2.1.1 hi, Option.bind_some, (k2.2.2 i hi).2.1]; exact ok _
    rw [if_neg w14, if_neg w14, in813 ⟨w8, w9, w10, w11, w12, w13⟩, Option.bind_some, if_pos rfl]
    exact rC_fail b2 h2 2 0 (by decide)
  · rw [e, e3, ite4 rfl]
    exact rC_fail (Bk_MR m1) h1 1 0 (by decide)
/-! the class -/
theorem fam_hi {T : Tr} (hT : tOk T) {p : Nat} (hp : tPres T p = true) : ∀ i, 61 ≤ i → i < 64 → lb (famT T p) i = false := fun i h1 h2 => by
  cases e : lb (famT T p) i
  · rfl
  · have := tOk_lt hT (fam_pres hT p hp i h2 e)
    omega
theorem cntB_cg {F G : Nat → Bool} (h : ∀ i, i < 61 → F i = G i) : cntB F = cntB G := by
  unfold cntB
  congr 1
  exact List.filter_congr (fun i hi => h i (List.mem_range.mp hi))
theorem c_countLeaves (h : CSr S A R c1 c2) (hA : aOk A) {i : Nat} (hp : tPres (aT A) i = true) : F_X9_countLeaves S 0 (nI i) = some (famR (aT A) i 4) ∧ F_X9_countDoneLeaves S 0 (nI i) = some (famR (aT A) i 5) := by
  unfold F_X9_countLeaves F_X9_countDoneLeaves
  obtain ⟨t, ht⟩ := cs_t h
  have hT := hA.1.1
  have hi := tOk_lt hT hp
  have hTt := cs_tr h ht
  have hk := cs_sk h
  have q1 : ∀ j, j < 61 → (lb (famT (aT A) i) j && (decide (j < 61) && (tPres (aT A) j && decide (tKids (aT A) j = [])))) = leafF (aT A) (lb (famT (aT A) i)) j := fun j hj => by
    unfold leafF
    cases e : lb (famT (aT A) i) j
    · rfl
    · rw [fam_pres hT i hp j (by omega) e, decide_eq_true hj]; rfl
  refine ⟨?_, ?_⟩
  · rw [x_oF h.1, (x_gs h.1).1, Option.bind_some, c_familyOf hk hi hp, Option.bind_some, x_g0 h.1 ht, Option.bind_some, c_leaf hTt hT, Option.bind_some, bitCount_eq, Option.bind_some]
    · congr 2
      refine cntB_cg (fun j hj => ?_)
      rw [lb_and, lb_bitsB _ (by omega)]
      exact q1 j hj
    · intro j h1 h2
      rw [lb_and, fam_hi hT hp j h1 h2]; rfl
  · rw [x_oF h.1, (x_gs h.1).1, Option.bind_some, c_familyOf hk hi hp, Option.bind_some, x_g0 h.1 ht, Option.bind_some, c_leaf hTt hT, Option.bind_some, Option.bind_some, c_done hTt, Option.bind_some, bitCount_eq, Option.bind_some]
    · congr 2
      refine cntB_cg (fun j hj => ?_)
      rw [lb_and, lb_and, lb_bitsB _ (by omega), q1 j hj]
      unfold lfdF
      cases e : leafF (aT A) (lb (famT (aT A) i)) j
      · rfl
      · have : lb (famT (aT A) i) j = true := by
          unfold leafF at e
          rw [Bool.and_eq_true] at e
          exact e.1
        rw [(hTt.2.2.2 j (fam_pres hT i hp j (by omega) this)).1]
    · intro j h1 h2
      rw [lb_and, lb_and, fam_hi hT hp j h1 h2]; rfl
theorem c_item (h : CSr S A R c1 c2) (hA : aOk A) (x w : Int32) : cC S (eN2 nIAE) (F_X9_item S 0 x w) (stItem A x w) := by
  unfold F_X9_item stItem
  have hT := hA.1.1
  obtain ⟨t, ht⟩ := cs_t h
  have hTt := cs_tr h ht
  have hk := cs_sk h
  rw [x_oF h.1, c_needItem h, Option.bind_some]
  rcases itN_c hT x with ⟨i, hi, rfl, hp, e, e3⟩ | ⟨e, e3⟩
  · rw [e, e3, if_pos rfl]
    simp only [Sum.elim_inl]
    have ok : ∀ v, cC S (eN2 nIAE) (some (.inl (v, S))) (A, 0, v) := fun v => cC_ok (Fm_refl _) (cs_of h)
    have hfam : ∀ j, j < 61 → lb (famT (aT A) i) j = true → tPres (aT A) j = true := fun j hj z => fam_pres hT i hp j (by omega) z
    unfold itemV
    by_cases w0 : w = 0
    · rw [if_pos w0, if_pos w0, (x_gs h.1).1, Option.bind_some, c_parentsOf hk hi, Option.bind_some]; exact ok _
    rw [if_neg w0, if_neg w0]
    by_cases w1 : w = 1
    · rw [if_pos w1, if_pos w1, x_g0 h.1 ht, Option.bind_some, c_count hTt hi hp, Option.bind_some]; exact ok _
    rw [if_neg w1, if_neg w1]
    by_cases w2 : w = 2
    · rw [if_pos w2, if_pos w2, (x_gs h.1).1, Option.bind_some, c_placesOf hk hi, Option.bind_some]; exact ok _
    rw [if_neg w2, if_neg w2]
    by_cases w3 : w = 3
    · rw [if_pos w3, if_pos w3, x_g0 h.1 ht, Option.bind_some, c_nameLen hTt hi hp, Option.bind_some]; exact ok _
    rw [if_neg w3, if_neg w3]
    by_cases w4 : w = 4
    · rw [if_pos w4, if_pos w4, x_g0 h.1 ht, Option.bind_some, c_value hTt hi hp, Option.bind_some]; exact ok _
    rw [if_neg w4, if_neg w4]
    by_cases w5 : w = 5
    · rw [if_pos w5, if_pos w5, x_g0 h.1 ht, Option.bind_some, c_day hTt hi hp, Option.bind_some]; exact ok _
    rw [if_neg w5, if_neg w5]
    by_cases w6 : w = 6
    · rw [if_pos w6, if_pos w6, x_g0 h.1 ht, Option.bind_some, c_done hTt, Option.bind_some, contains_eq _ _ (by omega), Option.bind_some, (hTt.2.2.2 i hp).1]
      cases tDone (aT A) i
      · exact ok _
      · exact ok _
    rw [if_neg w6, if_neg w6]
    by_cases w7 : w = 7
    · rw [if_pos w7, if_pos w7, x_g0 h.1 ht, Option.bind_some, c_folded hTt, Option.bind_some, contains_eq _ _ (by omega), Option.bind_some, (hTt.2.2.2 i hp).2.1]
      cases tFold (aT A) i
      · exact ok _
      · exact ok _
    rw [if_neg w7, if_neg w7]
    by_cases w8 : w = 8
    · rw [if_pos w8, if_pos w8, (x_gs h.1).1, Option.bind_some, c_familyOf hk hi hp, Option.bind_some, bitCount_eq _ _ (fam_hi hT hp), Option.bind_some]; exact ok _
    rw [if_neg w8, if_neg w8]
    by_cases w9 : w = 9
    · rw [if_pos w9, if_pos w9, x_g0 h.1 ht, Option.bind_some, (x_gs h.1).1, Option.bind_some, c_familyOf hk hi hp, Option.bind_some, c_sumOf hTt hfam, Option.bind_some]; exact ok _
    rw [if_neg w9, if_neg w9]
    by_cases w10 : w = 10
    · rw [if_pos w10, if_pos w10, x_g0 h.1 ht, Option.bind_some, (x_gs h.1).1, Option.bind_some, c_familyOf hk hi hp, Option.bind_some, c_earliest hTt hfam, Option.bind_some]; exact ok _
    rw [if_neg w10, if_neg w10]
    by_cases w11 : w = 11
    · rw [if_pos w11, if_pos w11, x_g0 h.1 ht, Option.bind_some, (x_gs h.1).1, Option.bind_some, c_familyOf hk hi hp, Option.bind_some, c_latest hTt hfam, Option.bind_some]; exact ok _
    rw [if_neg w11, if_neg w11]
    by_cases w12 : w = 12
    · rw [if_pos w12, if_pos w12, (c_countLeaves h hA hp).1, Option.bind_some]; exact ok _
    rw [if_neg w12, if_neg w12]
    by_cases w13 : w = 13
    · rw [if_pos w13, if_pos w13, (c_countLeaves h hA hp).2, Option.bind_some]; exact ok _
    rw [if_neg w13, if_neg w13]
    by_cases w14 : w = 14
    · rw [if_pos w14, if_pos w14, (x_gs h.1).1, Option.bind_some, c_placesBelow hk hi hp, Option.bind_some]; exact ok _
    rw [if_neg w14, if_neg w14]
    exact cC_x (Fm_refl _) (cs_of h) (by decide) rfl
  · rw [e, e3, if_neg (by decide)]
    simp only [Sum.elim_inr]
    exact cC_x (Fm_refl _) (cs_of h) (by decide) rfl
/-! the greatest depth -/
def maxD (d : Nat → Int32) (l : List Nat) : Int32 := l.foldl (fun x c => if x < d c then d c else x) 0
end ITM
