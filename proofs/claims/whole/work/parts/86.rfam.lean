/-! the reference: figures over a family, parents -/
section RFAM
variable {S : pS} {m : Nat} {T : Tr} {A : As}
def leafF (T : Tr) (F : Nat → Bool) (i : Nat) : Bool := F i && decide (tKids T i = [])
def lfdF (T : Tr) (F : Nat → Bool) (i : Nat) : Bool := leafF T F i && tDone T i
def cntR (F : Nat → Bool) (n : Nat) : Nat := ((List.range n).filter F).length
theorem cntR_s (F : Nat → Bool) (n : Nat) : cntR F (n + 1) = cntR F n + if F n = true then 1 else 0 := by
  unfold cntR
  rw [List.range_succ, List.filter_append, List.length_append, List.filter_cons, List.filter_nil]
  cases F n <;> rfl
theorem cntR_61 (F : Nat → Bool) : cntR F 61 = cntB F := rfl
def sumR (T : Tr) (F : Nat → Bool) (n : Nat) : Int32 := (List.range n).foldl (fun s i => if F i then s + tVal T i else s) 0
def firR (T : Tr) (F : Nat → Bool) (n : Nat) : Int32 := (List.range n).foldl (fun e i => if F i = true ∧ tDay T i ≠ -1 ∧ (e = -1 ∨ tDay T i < e) then tDay T i else e) (-1)
def lasR (T : Tr) (F : Nat → Bool) (n : Nat) : Int32 := (List.range n).foldl (fun e i => if F i = true ∧ e < tDay T i then tDay T i else e) (-1)
theorem sumR_s (T : Tr) (F : Nat → Bool) (n : Nat) : sumR T F (n + 1) = if F n then sumR T F n + tVal T n else sumR T F n := by
  unfold sumR
  rw [List.range_succ, List.foldl_append]; rfl
theorem firR_s (T : Tr) (F : Nat → Bool) (n : Nat) : firR T F (n + 1) = if F n = true ∧ tDay T n ≠ -1 ∧ (firR T F n = -1 ∨ tDay T n < firR T F n) then tDay T n else firR T F n := by
  unfold firR
  rw [List.range_succ, List.foldl_append]; rfl
theorem lasR_s (T : Tr) (F : Nat → Bool) (n : Nat) : lasR T F (n + 1) = if F n = true ∧ lasR T F n < tDay T n then tDay T n else lasR T F n := by
  unfold lasR
  rw [List.range_succ, List.foldl_append]; rfl
def famR (T : Tr) (p : Nat) (w : Int32) : Int32 := if ¬ w = 0 then (if ¬ w = 1 then (if ¬ w = 2 then (if ¬ w = 3 then (if ¬ w = 4 then nI (cntB (lfdF T (lb (famT T p)))) else nI (cntB (leafF T (lb (famT T p))))) else lasB T (lb (famT T p))) else firB T (lb (famT T p))) else sumB T (lb (famT T p))) else nI (cntB (lb (famT T p)))
theorem r_isOf (h : RR S m T) (hk : RK S m T) (hT : tOk T) {i p : Nat} (hi : i < 61) (hp : tPres T p = true) : F_X10_isOfFamily S m (nI i) (nI p) = some (if lb (famT T p) i then (1 : Int32) else 0) := by
  unfold F_X10_isOfFamily F_X10_isOfFamily_14
  have hp61 := tOk_lt hT hp
  rw [s10_oF h.1]
  by_cases c : i = p
  · subst c
    rw [if_pos rfl, fam_self hT hp]; rfl
  · rw [if_neg (fun z => c ((nI_eq (by omega) (by omega)).mp z)), r_isUnder h.1 hk hi hp61, Option.bind_some]
    have e : lb (famT T p) i = lb (belT T p) i := by
      have := fam_bel hT p hp i (by omega)
      cases e1 : lb (famT T p) i <;> cases e2 : lb (belT T p) i <;> simp_all
    rw [e]
    cases lb (belT T p) i <;> rfl
theorem r_familyOf (h : RR S m T) (hk : RK S m T) (hT : tOk T) {p : Nat} (hp : tPres T p = true) (w : Int32) : F_X10_familyOf S m (nI p) w = some (famR T p w) := by
  unfold F_X10_familyOf
  generalize hF : lb (famT T p) = F
  obtain ⟨r, e, hr⟩ := iter_fu (F := F_X10_familyOf_20 m (nI p) w S) (s := ((0 : Int32), (0 : Int32), (-1 : Int32), (-1 : Int32), (0 : Int32), (0 : Int32), (0 : Int32))) (fun i s => s = (nI (cntR F i), sumR T F i, firR T F i, lasR T F i, nI (cntR (leafF T F) i), nI (cntR (lfdF T F) i), nI i)) (P := fun r => r = (nI (cntB F), sumB T F, firB T F, lasB T F, nI (cntB (leafF T F)), nI (cntB (lfdF T F)))) 61 (by decide) rfl
    (by
      rintro s rfl
      unfold F_X10_familyOf_20
      rw [if_pos le61]
      exact ⟨_, rfl, rfl⟩)
    (by
      rintro i s hi rfl
      unfold F_X10_familyOf_20
      rw [if_neg (ge61 hi)]
      dsimp only
      rw [r_isItem_n h hi, Option.bind_some]
      by_cases hpi : tPres T i = true
      · rw [ite1 hpi, r_isOf h hk hT hi hp, Option.bind_some, hF]
        cases hFi : F i
        · rw [ite4 rfl]
          refine ⟨_, rfl, ?_⟩
          show _ = _
          have l1 : leafF T F i = false := by unfold leafF; rw [hFi]; rfl
          have l2 : lfdF T F i = false := by unfold lfdF; rw [l1]; rfl
          rw [cntR_s, cntR_s, cntR_s, sumR_s, firR_s, lasR_s, hFi, l1, l2, nI_1]
          simp
        · rw [ite5 rfl, s10_g1 h.1, Option.bind_some, li_62, nI_add, s10_r1 h.1 (by omega), Option.bind_some, Option.bind_some, li_123, nI_add, s10_r1 h.1 (by omega), Option.bind_some, (h.2.2.2 i hpi).1, (h.2.2.2 i hpi).2.1]
          have e121 : ∀ (a1 a2 a3 a4 : Int32), F_X10_familyOf_121 m (nI p) w S a1 a2 a3 (nI (cntR (leafF T F) i)) (nI (cntR (lfdF T F) i)) (nI i) a4 = some (.inl (a1, a2, a3, a4, nI (cntR (leafF T F) (i + 1)), nI (cntR (lfdF T F) (i + 1)), nI (i + 1))) := by
            intro a1 a2 a3 a4
            unfold F_X10_familyOf_121 F_X10_familyOf_142 F_X10_familyOf_156 F_X10_familyOf_180
            rw [s10_g1 h.1, Option.bind_some, li_916, nI_add, s10_r1 h.1 (by omega), Option.bind_some, r_many h hpi, cntR_s, cntR_s]
            by_cases ck : tKids T i = []
            · have l1 : leafF T F i = true := by unfold leafF; rw [hFi, ck]; rfl
              have l2 : lfdF T F i = tDone T i := by unfold lfdF; rw [l1]; rfl
              rw [l1, l2, if_neg (fun z => z (by rw [ck]; rfl)), if_neg (by decide), if_neg (by decide), r_has0 h hi hpi, Option.bind_some, nI_1, nI_1]
              cases tDone T i
              · rw [ite0 rfl, li_0, nI_add]; rfl
              · rw [ite1 rfl, nI_1]; rfl
            · have l1 : leafF T F i = false := by unfold leafF; rw [hFi]; simp [ck]
              have l2 : lfdF T F i = false := by unfold lfdF; rw [l1]; rfl
              have h12 := (hT.2.2.2.1 i hpi).1
              rw [l1, l2, if_pos (fun z => ck ((nI_len0 _ (by omega)).mp z)), if_pos rfl, if_pos rfl, nI_1, li_0, nI_add, nI_add]; rfl
          have e105 : ∀ (a1 a2 a3 : Int32), F_X10_familyOf_105 m (nI p) w S a1 a2 (lasR T F i) (nI (cntR (leafF T F) i)) (nI (cntR (lfdF T F) i)) (nI i) (tDay T i) a3 = some (.inl (a1, a2, a3, lasR T F (i + 1), nI (cntR (leafF T F) (i + 1)), nI (cntR (lfdF T F) (i + 1)), nI (i + 1))) := by
            intro a1 a2 a3
            unfold F_X10_familyOf_105
            rw [lasR_s, hFi]
            by_cases c : tDay T i ≤ lasR T F i
            · rw [if_pos c, e121, if_neg (fun z => (Int32.not_lt.mpr c) z.2)]
            · rw [if_neg c, e121, if_pos ⟨rfl, Int32.not_le.mp c⟩]
          unfold F_X10_familyOf_103 F_X10_familyOf_98
          have fin : ∀ a3, a3 = firR T F (i + 1) → wp (some (Sum.inl (nI (cntR F i) + 1, sumR T F i + tVal T i, a3, lasR T F (i + 1), nI (cntR (leafF T F) (i + 1)), nI (cntR (lfdF T F) (i + 1)), nI (i + 1)) : (Int32 × Int32 × Int32 × Int32 × Int32 × Int32 × Int32) ⊕ (Int32 × Int32 × Int32 × Int32 × Int32 × Int32))) (Sum.elim (fun s => s = (nI (cntR F (i + 1)), sumR T F (i + 1), firR T F (i + 1), lasR T F (i + 1), nI (cntR (leafF T F) (i + 1)), nI (cntR (lfdF T F) (i + 1)), nI (i + 1))) (fun r => r = (nI (cntB F), sumB T F, firB T F, lasB T F, nI (cntB (leafF T F)), nI (cntB (lfdF T F))))) := by
            rintro a3 rfl
            refine ⟨_, rfl, ?_⟩
            show _ = _
            rw [cntR_s F i, sumR_s T F i, hFi, nI_1]; rfl
          have hfir := firR_s T F i
          rw [hFi] at hfir
          by_cases c1 : tDay T i = -1
          · rw [if_pos c1, e105]
            exact fin _ (by rw [hfir, if_neg (fun z => z.2.1 c1)])
          · rw [if_neg c1]
            by_cases c2 : firR T F i = -1
            · rw [if_pos c2, e105]
              exact fin _ (by rw [hfir, if_pos ⟨rfl, c1, Or.inl c2⟩])
            · rw [if_neg c2]
              by_cases c3 : firR T F i ≤ tDay T i
              · rw [if_pos c3, e105]
                exact fin _ (by rw [hfir, if_neg (fun z => z.2.2.elim c2 (fun w => Int32.not_lt.mpr c3 w))])
              · rw [if_neg c3, e105]
                exact fin _ (by rw [hfir, if_pos ⟨rfl, c1, Or.inr (Int32.not_le.mp c3)⟩])
      · have hpf : tPres T i = false := by simpa using hpi
        have hFi : F i = false := by
          cases e : F i
          · rfl
          · rw [← hF] at e
            exact absurd (fam_pres hT p hp i (by omega) e) hpi
        have l1 : leafF T F i = false := by unfold leafF; rw [hFi]; rfl
        have l2 : lfdF T F i = false := by unfold lfdF; rw [l1]; rfl
        rw [ite0 hpf]
        refine ⟨_, rfl, ?_⟩
        show _ = _
        rw [cntR_s, cntR_s, cntR_s, sumR_s, firR_s, lasR_s, hFi, l1, l2, nI_1]
        simp)
  rw [s10_oF h.1, e, Option.bind_some, hr]
  unfold famR
  rw [hF]
  by_cases w0 : w = 0
  · rw [if_neg (fun z => z w0), if_neg (fun z => z w0)]
  · rw [if_pos w0, if_pos w0]
    by_cases w1 : w = 1
    · rw [if_neg (fun z => z w1), if_neg (fun z => z w1)]
    · rw [if_pos w1, if_pos w1]
      by_cases w2 : w = 2
      · rw [if_neg (fun z => z w2), if_neg (fun z => z w2)]
      · rw [if_pos w2, if_pos w2]
        by_cases w3 : w = 3
        · rw [if_neg (fun z => z w3), if_neg (fun z => z w3)]
        · rw [if_pos w3, if_pos w3]
          by_cases w4 : w = 4
          · rw [if_neg (fun z => z w4), if_neg (fun z => z w4)]
          · rw [if_pos w4, if_pos w4]
theorem r_parents (h : RR S m T) (hT : tOk T) {c : Nat} (hc : c < 61) : F_X10_parents S m (nI c) = some (nI (par T c).length) := by
  unfold F_X10_parents
  obtain ⟨r, e, hr⟩ := iter_fu (F := F_X10_parents_4 m (nI c) S) (s := ((0 : Int32), (0 : Int32))) (fun i s => s = (nI ((List.range i).filter fun p => tPres T p && (tKids T p).contains c).length, nI i)) (P := fun r => r = nI (par T c).length) 61 (by decide) rfl
    (by
      rintro s rfl
      unfold F_X10_parents_4
      rw [if_pos le61]
      exact ⟨_, rfl, rfl⟩)
    (by
      rintro i s hi rfl
      unfold F_X10_parents_4 F_X10_parents_33
      rw [if_neg (ge61 hi)]
      dsimp only
      rw [r_isItem_n h hi, Option.bind_some, par_range]
      cases hp : tPres T i
      · rw [ite0 rfl, li_0, nI_add, nI_1]
        exact ⟨_, rfl, by simp⟩
      · obtain ⟨r, er, hrr⟩ := r_indexOf h hT c hc hi hp
        rw [ite1 rfl, er, Option.bind_some]
        by_cases mm : c ∈ tKids T i
        · rw [if_neg (fun z => hrr.mp z mm), nI_1, nI_1]
          exact ⟨_, rfl, by simp [mm]⟩
        · rw [if_pos (hrr.mpr mm), li_0, nI_add, nI_1]
          exact ⟨_, rfl, by simp [mm]⟩)
  rw [s10_oF h.1, e, Option.bind_some, hr]
end RFAM
