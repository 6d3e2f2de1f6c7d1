/-! why an item cannot become a child -/
def reaP (T : Tr) (p : Nat) (x : Int32) : Int32 := if nI (wayT T 0) + nI (plcT T p) * x ≤ 300 then 0 else 4
def reaN (T : Tr) (p : Nat) : Int32 := if tMade T = 60 ∨ (tKids T p).length = 12 then 1 else reaP T p 1
def reaC (T : Tr) (c p : Nat) : Int32 := if (tKids T p).length = 12 then 1 else if c ∈ tKids T p then 2 else if lb (famT T c) p = true then 3 else reaP T p (1 + nI (wayT T c))
theorem reaP_0 {T : Tr} {p : Nat} {n : Nat} (h1 : wayT T 0 ≤ 300) (h2 : plcT T p ≤ 301) (h3 : n ≤ 301) (h : reaP T p (nI n) = 0) : wayT T 0 + plcT T p * n ≤ 300 := by
  unfold reaP at h
  by_cases c : nI (wayT T 0) + nI (plcT T p) * nI n ≤ 300
  · rw [pk_mul, nI_add] at c
    have b : plcT T p * n ≤ 301 * 301 := Nat.mul_le_mul h2 h3
    exact (nI_leI (b := 300) (by omega) (by decide)).mp c
  · rw [if_neg c] at h
    exact absurd h (by decide)
section REA
variable {S : pS} {a b m : Nat} {T : Tr}
theorem lt12 {n : Nat} (h : n ≤ 12) : (nI n < (12 : Int32)) ↔ ¬ n = 12 := by
  have : nI n < nI 12 ↔ n < 12 := nI_ltI (by omega) (by decide)
  constructor
  · intro z; have := this.mp z; omega
  · intro z; exact this.mpr (by omega)
theorem c_reasonNew (hs : SK S b T) (h : TR S a T) (hT : tOk T) {p : Nat} (hp : tPres T p = true) : F_X6_reasonAgainstNew S b a (nI p) = some (reaN T p) := by
  have hp61 := tOk_lt hT hp
  have h12 := (hT.2.2.2.1 p hp).1
  have hm := hT.2.1
  unfold F_X6_reasonAgainstNew reaN
  rw [s6_oF hs.1, c_added h, Option.bind_some]
  by_cases c : tMade T = 60
  · rw [if_pos (show (60 : Int32) ≤ nI (tMade T) by rw [c]; decide), if_pos (Or.inl c)]
  · rw [if_neg (show ¬ (60 : Int32) ≤ nI (tMade T) from nI_ge (b := 60) (by omega) (by decide)), c_count h hp61 hp, Option.bind_some]
    by_cases d : (tKids T p).length = 12
    · rw [if_neg (fun z => (lt12 h12).mp z d), if_pos (Or.inr d)]
    · rw [if_pos ((lt12 h12).mpr d), if_neg (fun z => z.elim c d), s6_g6 hs.1, Option.bind_some, li_0, s6_r6 hs.1 (by decide), Option.bind_some, s6_g4 hs.1, Option.bind_some, s6_r4 hs.1 hp61, Option.bind_some, (hs.2.2.2.2 0 hT.1).1, (hs.2.2.2.1 p hp61).2.1]
      unfold reaP
      rw [Int32.mul_one]
      by_cases e : nI (wayT T 0) + nI (plcT T p) ≤ 300
      · rw [if_pos e, if_pos e]; rfl
      · rw [if_neg e, if_neg e]
theorem c_reason (hs : SK S b T) (h : TR S a T) (hT : tOk T) {c p : Nat} (hp : tPres T p = true) (hc : tPres T c = true) : F_X6_reasonAgainst S b a (nI c) (nI p) = some (reaC T c p) := by
  have hp61 := tOk_lt hT hp
  have hc61 := tOk_lt hT hc
  have h12 := (hT.2.2.2.1 p hp).1
  unfold F_X6_reasonAgainst reaC
  rw [s6_oF hs.1, c_count h hp61 hp, Option.bind_some]
  by_cases d : (tKids T p).length = 12
  · rw [if_neg (fun z => (lt12 h12).mp z d), if_pos d]
  · rw [if_pos ((lt12 h12).mpr d), if_neg d, c_hasChild h hT c hc61 hp61 hp, Option.bind_some]
    by_cases e : c ∈ tKids T p
    · rw [itp1 e, if_pos e]
    · rw [itp0 e, if_neg e, s6_g7 hs.1, Option.bind_some, s6_r7 hs.1 hc61, Option.bind_some, contains_eq _ _ (by omega), Option.bind_some, (hs.2.2.2.2 c hc).2]
      cases f : lb (famT T c) p
      · rw [ite0 rfl, if_neg (by decide), s6_g4 hs.1, Option.bind_some, s6_r4 hs.1 hp61, Option.bind_some, s6_g6 hs.1, Option.bind_some, s6_r6 hs.1 hc61, Option.bind_some, Option.bind_some, li_0, s6_r6 hs.1 (by decide), Option.bind_some, (hs.2.2.2.2 0 hT.1).1, (hs.2.2.2.1 p hp61).2.1, (hs.2.2.2.2 c hc).1]
        unfold reaP
        by_cases e : nI (wayT T 0) + nI (plcT T p) * (1 + nI (wayT T c)) ≤ 300
        · rw [if_pos e, if_pos e]; rfl
        · rw [if_neg e, if_neg e]
      · rw [ite1 rfl, if_pos rfl]
/-! the reference's -/
theorem r_allPlaces (h : RR S m T) (hk : RK S m T) (hT : tOk T) : F_X10_allPlaces S m = some (nI (wayT T 0)) := by
  unfold F_X10_allPlaces
  obtain ⟨r, e, hr⟩ := iter_fu (F := F_X10_allPlaces_4 m S) (s := ((0 : Int32), (1 : Int32))) (fun i s => s = (nI ((List.range' 1 i).map fun i => if tPres T i = true then plcT T i else 0).sum, nI (1 + i))) (P := fun r => r = nI (allP T)) 60 (by decide) rfl
    (by
      rintro s rfl
      unfold F_X10_allPlaces_4
      rw [if_pos le61]
      exact ⟨_, rfl, rfl⟩)
    (by
      rintro i s hi rfl
      unfold F_X10_allPlaces_4
      rw [if_neg (ge61 (show 1 + i < 61 by omega)), s10_g1 h.1, Option.bind_some]
      dsimp only
      rw [nI_1l, s10_r1 h.1 (by omega), Option.bind_some, h.2.2.1 _ (show 1 + i < 61 by omega)]
      have er : List.range' 1 (i + 1) = List.range' 1 i ++ [1 + i] := by
        have := List.range'_concat (step := 1) (s := 1) (n := i)
        rw [Nat.one_mul] at this
        exact this
      rw [er, List.map_append, List.sum_append]
      cases hp : tPres T (1 + i)
      · rw [ite2 rfl]
        refine ⟨_, rfl, ?_⟩
        show (_ + (0 : Int32), nI (1 + i) + 1) = _
        rw [nI_1, li_0, nI_add]
        simp [hp, Nat.add_assoc]
      · rw [ite3 rfl, s10_g16 h.1, Option.bind_some, s10_r16 h.1 (by omega), Option.bind_some, (hk.2.2 _ (show 1 + i < 61 by omega)).1]
        refine ⟨_, rfl, ?_⟩
        show (_ + nI _, nI (1 + i) + 1) = _
        rw [nI_1, nI_add]
        simp [hp, Nat.add_assoc])
  rw [s10_oF h.1, e, Option.bind_some, hr, allP_way hT]
theorem r_isUnder (h : Sh S m sp10) (hk : RK S m T) {i j : Nat} (hi : i < 61) (hj : j < 61) : F_X10_isUnder S m (nI i) (nI j) = some (if lb (belT T j) i then (1 : Int32) else 0) := by
  unfold F_X10_isUnder
  rw [s10_oF h, s10_g19 h, Option.bind_some, s10_r19 h hj, Option.bind_some, (hk.2.2 j hj).2.2.2, sshr_and1 _ (by omega)]
  cases lb (belT T j) i
  · rw [if_pos (fun z => absurd ((lg_cmp0 _ _).mp z) (by decide))]; rfl
  · rw [if_neg (fun z => z ((lg_cmp0 _ _).mpr rfl))]; rfl
theorem r_reason98 (h : RR S m T) (hk : RK S m T) (hT : tOk T) {p : Nat} (x : Int32) : F_X10_reasonFor_98 S m (nI (plcT T p)) x = some (reaP T p x, S) := by
  unfold F_X10_reasonFor_98 reaP
  rw [r_allPlaces h hk hT, Option.bind_some]
  by_cases e : nI (wayT T 0) + nI (plcT T p) * x ≤ 300
  · rw [if_pos e, if_pos e]
  · rw [if_neg e, if_neg e]
theorem len12 {n : Nat} (h : n ≤ 12) : (nI n = (12 : Int32)) ↔ n = 12 := nI_eq (b := 12) (by omega) (by decide)
theorem nI_nm1 {c : Nat} (h : c < 2 ^ 31) : ¬ nI c = (-1 : Int32) := fun z => by
  have : nI c < 0 := by rw [z]; decide
  exact nI_pos h this
theorem r_reasonNew (h : RR S m T) (hT : tOk T) {p : Nat} (hp : tPres T p = true) : ∃ S', F_X10_reasonFor S m (-1 : Int32) (nI p) = some (reaN T p, S') ∧ MR S S' m [8, 9, 10, 11, 12, 13] [20] ∧ RK S' m T := by
  have hp61 := tOk_lt hT hp
  have h12 := (hT.2.2.2.1 p hp).1
  have hm := hT.2.1
  obtain ⟨S1, e1, m1, k1⟩ := r_knows h hT
  have h1 := MR_RR m1 (by decide) h
  refine ⟨S1, ?_, m1, k1⟩
  unfold F_X10_reasonFor reaN
  rw [s10_oF h.1, e1, Option.bind_some, if_neg (fun z => z rfl), s10_g1 h1.1, Option.bind_some, li_0, s10_r1 h1.1 (by decide), Option.bind_some, h1.2.1]
  by_cases c : tMade T = 60
  · rw [if_pos (show nI (tMade T) = 60 by rw [c]; rfl), if_pos (Or.inl c)]
  · rw [if_neg (show ¬ nI (tMade T) = 60 from fun z => c ((nI_eq (b := 60) (by omega) (by decide)).mp z))]
    unfold F_X10_reasonFor_20
    rw [s10_g1 h1.1, Option.bind_some, li_916, nI_add, s10_r1 h1.1 (by omega), Option.bind_some, r_many h1 hp]
    by_cases d : (tKids T p).length = 12
    · rw [if_neg (fun z => z ((len12 h12).mpr d)), if_pos (Or.inr d)]
    · rw [if_pos (fun z => d ((len12 h12).mp z)), if_pos (show (-1 : Int32) = -1 from rfl), if_neg (show ¬ (tMade T = 60 ∨ (tKids T p).length = 12) from fun z => z.elim c d)]
      unfold F_X10_reasonFor_54
      rw [if_pos rfl]
      unfold F_X10_reasonFor_75
      rw [s10_g16 h1.1, Option.bind_some, s10_r16 h1.1 hp61, Option.bind_some, (k1.2.2 p hp61).1, if_neg (fun z => z rfl), r_reason98 h1 k1 hT]
theorem r_reason (h : RR S m T) (hT : tOk T) {c p : Nat} (hp : tPres T p = true) (hc : tPres T c = true) : ∃ S', F_X10_reasonFor S m (nI c) (nI p) = some (reaC T c p, S') ∧ MR S S' m [8, 9, 10, 11, 12, 13] [20] ∧ RK S' m T := by
  have hp61 := tOk_lt hT hp
  have hc61 := tOk_lt hT hc
  have h12 := (hT.2.2.2.1 p hp).1
  obtain ⟨S1, e1, m1, k1⟩ := r_knows h hT
  have h1 := MR_RR m1 (by decide) h
  refine ⟨S1, ?_, m1, k1⟩
  unfold F_X10_reasonFor reaC
  have hn := nI_nm1 (c := c) (by omega)
  rw [s10_oF h.1, e1, Option.bind_some, if_pos hn]
  unfold F_X10_reasonFor_20
  rw [s10_g1 h1.1, Option.bind_some, li_916, nI_add, s10_r1 h1.1 (by omega), Option.bind_some, r_many h1 hp]
  by_cases d : (tKids T p).length = 12
  · rw [if_neg (fun z => z ((len12 h12).mpr d)), if_pos d]
  · rw [if_pos (fun z => d ((len12 h12).mp z)), if_neg d, if_neg hn]
    obtain ⟨r, er, hr⟩ := r_indexOf h1 hT c hc61 hp61 hp
    rw [er, Option.bind_some]
    by_cases e : c ∈ tKids T p
    · rw [if_neg (fun z => (hr.mp z) e), if_pos e]
    · rw [if_pos (hr.mpr e), if_neg e]
      unfold F_X10_reasonFor_54
      rw [if_neg hn]
      have hfb := fam_bel hT c hc p (by omega)
      by_cases f : c = p
      · rw [if_pos (by rw [f]), if_pos (hfb.mpr (Or.inl f.symm))]
      · rw [if_neg (fun z => f ((nI_eq (by omega) (by omega)).mp z)), r_isUnder h1.1 k1 hp61 hc61, Option.bind_some]
        cases g : lb (belT T c) p
        · rw [ite0 rfl, if_neg (fun z => (hfb.mp z).elim (fun w => f w.symm) (fun w => by rw [g] at w; cases w))]
          unfold F_X10_reasonFor_75
          rw [s10_g16 h1.1, Option.bind_some, s10_r16 h1.1 hp61, Option.bind_some, (k1.2.2 p hp61).1, if_pos hn, s10_g17 h1.1, Option.bind_some, s10_r17 h1.1 hc61, Option.bind_some, (k1.2.2 c hc61).2.1, r_reason98 h1 k1 hT]
        · rw [ite1 rfl, if_pos (hfb.mpr (Or.inr g))]
end REA
