/-! the class's tree holds an outline -/
theorem iter_foldE {σ β γ : Type} (F : σ → Option (σ ⊕ β)) (st : Nat → γ → σ) (g : γ → Nat → γ) (fin : γ → β) (e : Nat) (he : e < 1000000) (hs : ∀ i y, i < e → F (st i y) = some (.inl (st (i + 1) (g y i)))) (hx : ∀ y, F (st e y) = some (.inr (fin y))) (y0 : γ) {s0 : σ} (h0 : s0 = st 0 y0) :
    iter F fu s0 = some (fin ((List.range e).foldl g y0)) := by
  subst h0
  obtain ⟨r, h1, h2⟩ := iter_fu (F := F) (s := st 0 y0) (fun i s => s = st i ((List.range i).foldl g y0)) (P := fun r => r = fin ((List.range e).foldl g y0)) e he rfl
    (by intro s h; rw [h]; exact ⟨_, hx _, rfl⟩)
    (by intro i s hi h; rw [h]; refine ⟨_, hs i _ hi, ?_⟩; show st (i + 1) _ = st (i + 1) _; rw [List.range_succ, List.foldl_append]; rfl)
  rw [h1, h2]
theorem ge61 {i : Nat} (h : i < 61) : ¬ (61 : Int32) ≤ nI i := nI_ge h (by decide)
theorem le61 : (61 : Int32) ≤ nI 61 := by decide
def TR (S : pS) (a : Nat) (T : Tr) : Prop := Sh S a sp8 ∧ fI (S.2 a) 9 = nI (tMade T) ∧ (∀ i, i < 64 → lb (fJ (S.2 a) 6) i = tPres T i) ∧
  ∀ i, tPres T i = true → lb (fJ (S.2 a) 7) i = tDone T i ∧ lb (fJ (S.2 a) 8) i = tFold T i ∧ cI (S.2 (a + 5)) i = tVal T i ∧ cI (S.2 (a + 6)) i = tDay T i ∧
    cI (S.2 (a + 1)) i = nI (tKids T i).length ∧ (∀ k c, (tKids T i)[k]? = some c → cI (S.2 (a + 2)) (12 * i + k) = nI c) ∧
    cI (S.2 (a + 3)) i = nI (tName T i).length ∧ ∀ k x, (tName T i)[k]? = some x → cI (S.2 (a + 4)) (10 * i + k) = x
theorem TR_fr {S S' : pS} {a : Nat} {T : Tr} (h : TR S a T) (h1 : S.1 ≤ S'.1) (h2 : ∀ q, a ≤ q → q < a + 7 → S'.2 q = S.2 q) : TR S' a T := by
  obtain ⟨k1, k2⟩ := h
  refine ⟨sh_fr k1 h1 h2, ?_⟩
  rw [h2 a (by omega) (by omega), h2 (a + 1) (by omega) (by omega), h2 (a + 2) (by omega) (by omega), h2 (a + 3) (by omega) (by omega), h2 (a + 4) (by omega) (by omega), h2 (a + 5) (by omega) (by omega), h2 (a + 6) (by omega) (by omega)]
  exact k2
/-- is the int an item -/
def itm (T : Tr) (x : Int32) : Bool := decide (¬ x < 0) && decide (¬ (61 : Int32) ≤ x) && tPres T x.toNatClampNeg
theorem itm_nI {T : Tr} {i : Nat} (h : i < 61) : itm T (nI i) = tPres T i := by
  unfold itm
  rw [nI_clamp (by omega)]
  have h1 : decide (¬ nI i < 0) = true := decide_eq_true (nI_pos (by omega))
  have h2 : decide (¬ (61 : Int32) ≤ nI i) = true := decide_eq_true (ge61 h)
  rw [h1, h2]; rfl
theorem itm_of {T : Tr} {x : Int32} (h : itm T x = true) : ∃ i, i < 61 ∧ x = nI i ∧ tPres T i = true := by
  unfold itm at h
  rw [Bool.and_eq_true, Bool.and_eq_true, decide_eq_true_eq, decide_eq_true_eq] at h
  obtain ⟨⟨h1, h2⟩, h3⟩ := h
  obtain ⟨j, hj, rfl⟩ := nI_of h1
  rw [nI_clamp hj] at h3
  have : j < 61 := by
    rcases Nat.lt_or_ge j 61 with z | z
    · exact z
    · exact absurd (nI_le z hj) h2
  exact ⟨j, this, rfl, h3⟩
section TREE
variable {S : pS} {a : Nat} {T : Tr}
theorem c_holds (h : TR S a T) (x : Int32) : F_X8_holds S a x = some (if itm T x then (1 : Int32) else 0) := by
  unfold F_X8_holds itm
  rw [s8_oF h.1]
  by_cases c1 : x < 0
  · rw [if_pos c1]; simp [c1]
  · rw [if_neg c1]
    by_cases c2 : (61 : Int32) ≤ x
    · rw [if_pos c2]; simp [c2]
    · rw [if_neg c2, s8_g6 h.1, Option.bind_some]
      obtain ⟨j, hj, rfl⟩ := nI_of c1
      have hj61 : j < 61 := by
        rcases Nat.lt_or_ge j 61 with z | z
        · exact z
        · exact absurd (nI_le z hj) c2
      rw [contains_eq _ _ (by omega), Option.bind_some, h.2.2.1 j (by omega), nI_clamp hj]
      have h1 : decide (¬ nI j < 0) = true := decide_eq_true c1
      have h2 : decide (¬ (61 : Int32) ≤ nI j) = true := decide_eq_true c2
      rw [h1, h2]
      cases tPres T j <;> rfl
theorem c_holds_n (h : TR S a T) {i : Nat} (hi : i < 61) : F_X8_holds S a (nI i) = some (if tPres T i then (1 : Int32) else 0) := by rw [c_holds h, itm_nI hi]
theorem c_count (h : TR S a T) {i : Nat} (hi : i < 61) (hp : tPres T i = true) : F_X8_childCount S a (nI i) = some (nI (tKids T i).length) := by
  unfold F_X8_childCount
  rw [s8_oF h.1, s8_g0 h.1, Option.bind_some, s8_r0 h.1 hi, Option.bind_some, (h.2.2.2 i hp).2.2.2.2.1]
theorem c_mul12 (i k : Nat) : nI i * (12 : Int32) + nI k = nI (12 * i + k) := by rw [li_12, pk_mul, nI_add, Nat.mul_comm]
theorem c_mul10 (i k : Nat) : nI i * (10 : Int32) + nI k = nI (10 * i + k) := by rw [li_10, pk_mul, nI_add, Nat.mul_comm]
theorem c_childAt (h : TR S a T) {i k c : Nat} (hi : i < 61) (hk : k < 12) (hp : tPres T i = true) (hc : (tKids T i)[k]? = some c) : F_X8_childAt S a (nI i) (nI k) = some (nI c) := by
  unfold F_X8_childAt
  rw [s8_oF h.1, s8_g1 h.1, Option.bind_some, c_mul12, s8_r1 h.1 (by omega), Option.bind_some, (h.2.2.2 i hp).2.2.2.2.2.1 k c hc]
theorem c_present (h : TR S a T) : F_X8_presentItems S a = some (fJ (S.2 a) 6) := by
  unfold F_X8_presentItems
  rw [s8_oF h.1, s8_g6 h.1, Option.bind_some]
theorem c_done (h : TR S a T) : F_X8_doneItems S a = some (fJ (S.2 a) 7) := by
  unfold F_X8_doneItems
  rw [s8_oF h.1, s8_g7 h.1, Option.bind_some]
theorem c_folded (h : TR S a T) : F_X8_foldedItems S a = some (fJ (S.2 a) 8) := by
  unfold F_X8_foldedItems
  rw [s8_oF h.1, s8_g8 h.1, Option.bind_some]
theorem c_added (h : TR S a T) : F_X8_countAdded S a = some (nI (tMade T)) := by
  unfold F_X8_countAdded
  rw [s8_oF h.1, s8_g9 h.1, Option.bind_some, h.2.1]
theorem c_value (h : TR S a T) {i : Nat} (hi : i < 61) (hp : tPres T i = true) : F_X8_valueOf S a (nI i) = some (tVal T i) := by
  unfold F_X8_valueOf
  rw [s8_oF h.1, s8_g4 h.1, Option.bind_some, s8_r4 h.1 hi, Option.bind_some, (h.2.2.2 i hp).2.2.1]
theorem c_day (h : TR S a T) {i : Nat} (hi : i < 61) (hp : tPres T i = true) : F_X8_dayOf S a (nI i) = some (tDay T i) := by
  unfold F_X8_dayOf
  rw [s8_oF h.1, s8_g5 h.1, Option.bind_some, s8_r5 h.1 hi, Option.bind_some, (h.2.2.2 i hp).2.2.2.1]
theorem c_nameLen (h : TR S a T) {i : Nat} (hi : i < 61) (hp : tPres T i = true) : F_X8_nameLength S a (nI i) = some (nI (tName T i).length) := by
  unfold F_X8_nameLength
  rw [s8_oF h.1, s8_g2 h.1, Option.bind_some, s8_r2 h.1 hi, Option.bind_some, (h.2.2.2 i hp).2.2.2.2.2.2.1]
theorem oC_ok {x : Int32} (h : 97 ≤ x ∧ x ≤ 122) : oC x = some x := by
  obtain ⟨j, hj, rfl⟩ := nI_of2 (M := 122) (n := 122) rfl (x := x) (by have := h.1; intro z; exact absurd (fa9_lt z this) (by decide)) h.2
  unfold oC
  rw [if_pos (pk_charN (by omega)).1]
theorem c_letter (h : TR S a T) (hT : tOk T) {i k : Nat} {x : Int32} (hi : i < 61) (hk : k < 10) (hp : tPres T i = true) (hc : (tName T i)[k]? = some x) : F_X8_letterAt S a (nI i) (nI k) = some x := by
  unfold F_X8_letterAt
  rw [s8_oF h.1, s8_g3 h.1, Option.bind_some, c_mul10, s8_r3 h.1 (by omega), Option.bind_some, (h.2.2.2 i hp).2.2.2.2.2.2.2 k x hc, oC_ok ((hT.2.2.2.2.1 i hp).2 x (List.mem_of_getElem? hc))]
  rfl
theorem c_hasChild (h : TR S a T) (hT : tOk T) {i : Nat} (x : Nat) (hx : x < 61) (hi : i < 61) (hp : tPres T i = true) : F_X8_hasChild S a (nI i) (nI x) = some (if x ∈ tKids T i then (1 : Int32) else 0) := by
  unfold F_X8_hasChild
  rw [s8_oF h.1]
  have h12 := (hT.2.2.2.1 i hp).1
  obtain ⟨r, e, hr⟩ := iter_fu (F := F_X8_hasChild_2 a (nI i) (nI x) S) (s := (0 : Int32)) (fun k s => s = nI k ∧ ∀ j, j < k → (tKids T i)[j]? ≠ some x) (P := fun r => (r = .inl () ∧ x ∈ tKids T i) ∨ (r = .inr () ∧ x ∉ tKids T i)) (tKids T i).length (by omega) ⟨rfl, fun j hj => absurd hj (Nat.not_lt_zero _)⟩
    (by
      rintro s ⟨rfl, hs⟩
      refine ⟨.inr (.inr ()), ?_, Or.inr ⟨rfl, fun z => ?_⟩⟩
      · unfold F_X8_hasChild_2
        rw [s8_g0 h.1, Option.bind_some, s8_r0 h.1 hi, Option.bind_some, (h.2.2.2 i hp).2.2.2.2.1, if_pos (nI_le (Nat.le_refl _) (by omega))]
      · obtain ⟨j, hj, e⟩ := List.mem_iff_getElem.mp z
        exact hs j hj (by rw [List.getElem?_eq_getElem hj, e]))
    (by
      rintro k s hk ⟨rfl, hs⟩
      have e1 : (tKids T i)[k]? = some (tKids T i)[k] := List.getElem?_eq_getElem hk
      have hk61 := (tOk_kid hT hp (List.getElem_mem hk)).2.2.2
      unfold F_X8_hasChild_2
      rw [s8_g0 h.1, Option.bind_some, s8_r0 h.1 hi, Option.bind_some, (h.2.2.2 i hp).2.2.2.2.1, if_neg (nI_ge hk (by omega)), c_childAt h hi (by omega) hp e1, Option.bind_some]
      by_cases c : (tKids T i)[k] = x
      · rw [if_neg (fun z => z (by rw [c]))]
        exact ⟨_, rfl, Or.inl ⟨rfl, c ▸ List.getElem_mem hk⟩⟩
      · rw [if_pos (fun z => c ((nI_eq (by omega) (by omega)).mp z)), nI_1]
        refine ⟨_, rfl, rfl, fun j hj => ?_⟩
        rcases Nat.lt_succ_iff_lt_or_eq.mp hj with z | z
        · exact hs j z
        · rw [z, e1]; exact fun w => c (Option.some.inj w))
  rw [e, Option.bind_some]
  rcases hr with ⟨rfl, hm⟩ | ⟨rfl, hm⟩
  · rw [if_pos hm]; rfl
  · rw [if_neg hm]; rfl
end TREE
section TREE
variable {S : pS} {a : Nat} {T : Tr}
/-! figures over the items -/
def sumB (T : Tr) (F : Nat → Bool) : Int32 := (List.range 61).foldl (fun s i => if F i then s + tVal T i else s) 0
def firB (T : Tr) (F : Nat → Bool) : Int32 := (List.range 61).foldl (fun e i => if F i = true ∧ tDay T i ≠ -1 ∧ (e = -1 ∨ tDay T i < e) then tDay T i else e) (-1)
def lasB (T : Tr) (F : Nat → Bool) : Int32 := (List.range 61).foldl (fun e i => if F i = true ∧ e < tDay T i then tDay T i else e) (-1)
def bitsB (F : Nat → Bool) : Int64 := (List.range 61).foldl (fun x i => withL x i (F i)) 0
theorem lb_bitsB (F : Nat → Bool) {j : Nat} (hj : j < 64) : lb (bitsB F) j = (decide (j < 61) && F j) := by
  have key : ∀ n, n ≤ 61 → lb ((List.range n).foldl (fun x i => withL x i (F i)) 0) j = (decide (j < n) && F j) := by
    intro n
    induction n with
    | zero => intro _; simp [lb_0]
    | succ n ih =>
      intro hn
      rw [List.range_succ, List.foldl_append]
      show lb (withL _ n (F n)) j = _
      rw [lb_withL _ _ (by omega) hj, ih (by omega)]
      by_cases c : j = n
      · subst c; simp
      · rw [if_neg c]
        have : decide (j < n + 1) = decide (j < n) := decide_eq_decide.mpr (by omega)
        rw [this]
  exact key 61 (Nat.le_refl _)
theorem c_dated (h : TR S a T) : F_X8_datedItems S a = some (bitsB fun i => tPres T i && decide (tDay T i ≠ -1)) := by
  unfold F_X8_datedItems
  rw [s8_oF h.1, iter_foldE (F_X8_datedItems_4 a S) (fun i y => (y, nI i)) (fun x i => withL x i (tPres T i && decide (tDay T i ≠ -1))) id 61 (by decide) ?_ ?_ (0 : Int64) (s0 := ((0 : Int64), (0 : Int32))) rfl]
  · rfl
  · intro i y hi
    unfold F_X8_datedItems_4
    rw [if_neg (ge61 hi), c_holds_n h hi, Option.bind_some]
    cases hp : tPres T i
    · show F_X8_datedItems_34 a S (nI i) y (nI i) = _
      unfold F_X8_datedItems_34 F_X8_datedItems_35
      rw [with_0, Option.bind_some, nI_1]; rfl
    · rw [ite1 rfl, s8_g5 h.1, Option.bind_some, s8_r5 h.1 hi, Option.bind_some, (h.2.2.2 i hp).2.2.2.1]
      by_cases c : tDay T i = -1
      · rw [if_pos c]
        unfold F_X8_datedItems_34 F_X8_datedItems_35
        rw [with_0, Option.bind_some, nI_1]; simp [c]
      · rw [if_neg c]
        unfold F_X8_datedItems_35
        rw [with_1, Option.bind_some, nI_1]; simp [c]
  · intro y
    unfold F_X8_datedItems_4
    rw [if_pos le61]; rfl
theorem nI_len0 {α : Type} (l : List α) (h : l.length < 2 ^ 31) : nI l.length = 0 ↔ l = [] := by
  rw [← List.length_eq_zero_iff]
  exact nI_eq h (by decide)
theorem c_leaf (h : TR S a T) (hT : tOk T) : F_X8_leafItems S a = some (bitsB fun i => tPres T i && decide (tKids T i = [])) := by
  unfold F_X8_leafItems
  rw [s8_oF h.1, iter_foldE (F_X8_leafItems_4 a S) (fun i y => (y, nI i)) (fun x i => withL x i (tPres T i && decide (tKids T i = []))) id 61 (by decide) ?_ ?_ (0 : Int64) (s0 := ((0 : Int64), (0 : Int32))) rfl]
  · rfl
  · intro i y hi
    unfold F_X8_leafItems_4
    rw [if_neg (ge61 hi), c_holds_n h hi, Option.bind_some]
    cases hp : tPres T i
    · show F_X8_leafItems_33 a S (nI i) y (nI i) = _
      unfold F_X8_leafItems_33 F_X8_leafItems_34
      rw [with_0, Option.bind_some, nI_1]; rfl
    · rw [ite1 rfl, s8_g0 h.1, Option.bind_some, s8_r0 h.1 hi, Option.bind_some, (h.2.2.2 i hp).2.2.2.2.1]
      have h12 := (hT.2.2.2.1 i hp).1
      by_cases c : tKids T i = []
      · rw [if_neg (fun z => z ((nI_len0 _ (by omega)).mpr c))]
        unfold F_X8_leafItems_34
        rw [with_1, Option.bind_some, nI_1]; simp [c]
      · rw [if_pos (fun z => c ((nI_len0 _ (by omega)).mp z))]
        unfold F_X8_leafItems_33 F_X8_leafItems_34
        rw [with_0, Option.bind_some, nI_1]; simp [c]
  · intro y
    unfold F_X8_leafItems_4
    rw [if_pos le61]; rfl
theorem c_sumOf (h : TR S a T) {fam : Int64} (hf : ∀ i, i < 61 → lb fam i = true → tPres T i = true) : F_X8_sumOf S a fam = some (sumB T (lb fam)) := by
  unfold F_X8_sumOf
  rw [s8_oF h.1, iter_foldE (F_X8_sumOf_5 a fam S) (fun i y => (y, nI i)) (fun s i => if lb fam i then s + tVal T i else s) id 61 (by decide) ?_ ?_ (0 : Int32) (s0 := ((0 : Int32), (0 : Int32))) rfl]
  · rfl
  · intro i y hi
    unfold F_X8_sumOf_5
    rw [if_neg (ge61 hi), contains_eq _ _ (by omega), Option.bind_some]
    cases hb : lb fam i
    · rw [ite0 rfl, nI_1]; rfl
    · rw [ite1 rfl, s8_g4 h.1, Option.bind_some, s8_r4 h.1 hi, Option.bind_some, (h.2.2.2 i (hf i hi hb)).2.2.1, nI_1]; rfl
  · intro y
    unfold F_X8_sumOf_5
    rw [if_pos le61]; rfl
theorem c_earliest (h : TR S a T) {fam : Int64} (hf : ∀ i, i < 61 → lb fam i = true → tPres T i = true) : F_X8_earliestDay S a fam = some (firB T (lb fam)) := by
  unfold F_X8_earliestDay
  rw [s8_oF h.1, iter_foldE (F_X8_earliestDay_5 a fam S) (fun i y => (y, nI i)) (fun e i => if lb fam i = true ∧ tDay T i ≠ -1 ∧ (e = -1 ∨ tDay T i < e) then tDay T i else e) id 61 (by decide) ?_ ?_ (-1 : Int32) (s0 := ((-1 : Int32), (0 : Int32))) rfl]
  · rfl
  · intro i y hi
    unfold F_X8_earliestDay_5
    rw [if_neg (ge61 hi), s8_g5 h.1, Option.bind_some, s8_r5 h.1 hi, Option.bind_some, contains_eq _ _ (by omega), Option.bind_some, nI_1]
    cases hb : lb fam i
    · rw [ite0 rfl]; simp
    · rw [ite1 rfl, (h.2.2.2 i (hf i hi hb)).2.2.2.1]
      by_cases c1 : tDay T i = -1
      · rw [if_pos c1]; simp [c1]
      · rw [if_neg c1]
        by_cases c2 : y = -1
        · rw [if_pos c2]; simp [c1, c2]
        · rw [if_neg c2]
          by_cases c3 : y ≤ tDay T i
          · rw [if_pos c3]; simp [c1, c2, Int32.not_lt.mpr c3]
          · rw [if_neg c3]; simp [c1, c2, Int32.not_le.mp c3]
  · intro y
    unfold F_X8_earliestDay_5
    rw [if_pos le61]; rfl
theorem c_latest (h : TR S a T) {fam : Int64} (hf : ∀ i, i < 61 → lb fam i = true → tPres T i = true) : F_X8_latestDay S a fam = some (lasB T (lb fam)) := by
  unfold F_X8_latestDay
  rw [s8_oF h.1, iter_foldE (F_X8_latestDay_5 a fam S) (fun i y => (y, nI i)) (fun e i => if lb fam i = true ∧ e < tDay T i then tDay T i else e) id 61 (by decide) ?_ ?_ (-1 : Int32) (s0 := ((-1 : Int32), (0 : Int32))) rfl]
  · rfl
  · intro i y hi
    unfold F_X8_latestDay_5
    rw [if_neg (ge61 hi), contains_eq _ _ (by omega), Option.bind_some, nI_1]
    cases hb : lb fam i
    · rw [ite0 rfl]; simp
    · rw [ite1 rfl, s8_g5 h.1, Option.bind_some, s8_r5 h.1 hi, Option.bind_some, (h.2.2.2 i (hf i hi hb)).2.2.2.1]
      simp
  · intro y
    unfold F_X8_latestDay_5
    rw [if_pos le61]; rfl
/-! parents -/
theorem par_range (T : Tr) (c n : Nat) : ((List.range (n + 1)).filter fun p => tPres T p && (tKids T p).contains c) = ((List.range n).filter fun p => tPres T p && (tKids T p).contains c) ++ (if tPres T n = true ∧ c ∈ tKids T n then [n] else []) := by
  rw [List.range_succ, List.filter_append]
  congr 1
  by_cases h : tPres T n = true ∧ c ∈ tKids T n
  · rw [if_pos h]; simp [h.1, h.2]
  · rw [if_neg h]
    simp only [List.filter_cons, List.filter_nil]
    rw [if_neg]
    simp only [Bool.and_eq_true, List.contains_iff_mem]
    exact h
theorem c_countParents (h : TR S a T) (hT : tOk T) {c : Nat} (hc : c < 61) : F_X8_countParents S a (nI c) = some (nI (par T c).length) := by
  unfold F_X8_countParents
  rw [s8_oF h.1]
  obtain ⟨r, e, hr⟩ := iter_fu (F := F_X8_countParents_4 a (nI c) S) (s := ((0 : Int32), (0 : Int32))) (fun i s => s = (nI ((List.range i).filter fun p => tPres T p && (tKids T p).contains c).length, nI i)) (P := fun r => r = nI (par T c).length) 61 (by decide) rfl
    (by
      rintro s rfl
      unfold F_X8_countParents_4
      rw [if_pos le61]
      exact ⟨_, rfl, rfl⟩)
    (by
      rintro i s hi rfl
      unfold F_X8_countParents_4
      rw [if_neg (ge61 hi), c_holds_n h hi, Option.bind_some, par_range]
      cases hp : tPres T i
      · rw [ite0 rfl]
        unfold F_X8_countParents_32
        rw [li_0, nI_add, nI_1]
        exact ⟨_, rfl, by simp⟩
      · rw [ite1 rfl, c_hasChild h hT c hc hi hp, Option.bind_some]
        by_cases m : c ∈ tKids T i
        · rw [if_pos m, if_neg (by decide), nI_1, nI_1]
          exact ⟨_, rfl, by simp [m]⟩
        · rw [if_neg m, if_pos rfl]
          unfold F_X8_countParents_32
          rw [li_0, nI_add, nI_1]
          exact ⟨_, rfl, by simp [m]⟩)
  rw [e, Option.bind_some, hr]
theorem c_parentAt (h : TR S a T) (hT : tOk T) {c k p : Nat} (hc : c < 61) (hk : (par T c)[k]? = some p) : F_X8_parentAt S a (nI c) (nI k) = some (nI p) := by
  unfold F_X8_parentAt
  rw [s8_oF h.1]
  have hk2 := (List.getElem?_eq_some_iff.mp hk).1
  have hl : (par T c).length ≤ 61 := by
    have := List.length_filter_le (fun p => tPres T p && (tKids T p).contains c) (List.range 61)
    rw [List.length_range] at this
    exact this
  obtain ⟨r, e, hr⟩ := iter_fu (F := F_X8_parentAt_5 a (nI c) (nI k) S) (s := ((0 : Int32), (0 : Int32))) (fun i s => s = (nI ((List.range i).filter fun p => tPres T p && (tKids T p).contains c).length, nI i) ∧ ((List.range i).filter fun p => tPres T p && (tKids T p).contains c).length ≤ k) (P := fun r => r = .inl (nI p)) 61 (by decide) ⟨rfl, Nat.zero_le _⟩
    (by
      rintro s ⟨rfl, hs⟩
      have : (par T c).length ≤ k := hs
      omega)
    (by
      rintro i s hi ⟨rfl, hs⟩
      unfold F_X8_parentAt_5
      rw [if_neg (ge61 hi), c_holds_n h hi, Option.bind_some, par_range]
      cases hp : tPres T i
      · rw [ite0 rfl, nI_1]
        exact ⟨_, rfl, by simp, by simpa using hs⟩
      · rw [ite1 rfl, c_hasChild h hT c hc hi hp, Option.bind_some]
        by_cases m : c ∈ tKids T i
        · rw [if_pos m, if_neg (by decide)]
          by_cases e : ((List.range i).filter fun p => tPres T p && (tKids T p).contains c).length = k
          · rw [if_neg (fun z => z (by rw [e]))]
            refine ⟨_, rfl, ?_⟩
            show Sum.inl (nI i) = Sum.inl (nI p)
            have e2 : par T c = ((List.range i).filter fun p => tPres T p && (tKids T p).contains c) ++ ((List.range' i (61 - i)).filter fun p => tPres T p && (tKids T p).contains c) := by
              unfold par
              rw [← List.filter_append]
              congr 1
              rw [List.range_eq_range', List.range_eq_range']
              have := List.range'_append (s := 0) (m := i) (n := 61 - i) (step := 1)
              rw [Nat.zero_add, Nat.one_mul] at this
              rw [this]
              congr 1
              omega
            have e3 : 61 - i = (60 - i) + 1 := by omega
            rw [e2, e3, List.range'_succ, List.filter_cons, if_pos (by simp [hp, m]), List.getElem?_append_right (by omega), e, Nat.sub_self] at hk
            have : i = p := by simpa using hk
            rw [this]
          · rw [if_pos (fun z => e ((nI_eq (by have := List.length_filter_le (fun p => tPres T p && (tKids T p).contains c) (List.range i); rw [List.length_range] at this; omega) (by omega)).mp z)), nI_1, nI_1]
            refine ⟨_, rfl, by simp [m], ?_⟩
            simp only [m, hp, and_self, if_true, List.length_append, List.length_cons, List.length_nil]
            omega
        · rw [if_neg m, if_pos rfl, nI_1]
          exact ⟨_, rfl, by simp [m], by simpa [m] using hs⟩)
  rw [e, Option.bind_some, hr]
  rfl
end TREE
