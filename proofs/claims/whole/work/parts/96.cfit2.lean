/-! filters: the class, all conditions -/
section CF2
variable {S : pS} {t b c1 : Nat} {T : Tr} {L : List Cnd}
theorem c_letters (h : TR S t T) (hT : tOk T) (hd : CD S c1 L) (hL : L.length ≤ 5) {c : Nat} {q : Cnd} (hc : L[c]? = some q) (hq6 : q.1 = 6) (hq : q.2.2.2.length ≤ 10) : ∃ x, F_X1_itemsWithLetters S c1 t (nI c) = some x ∧ ∀ i, tPres T i = true → i ≠ 0 → lb x i = conB (tName T i) q.2.2.2 := by
  unfold F_X1_itemsWithLetters
  have hc2 := (List.getElem?_eq_some_iff.mp hc).1
  obtain ⟨hs1, -, hrow⟩ := hd
  obtain ⟨a5, a4⟩ := (hrow c q hc).2.2.2 hq6
  obtain ⟨r, e, hr⟩ := iter_fu (F := F_X1_itemsWithLetters_5 c1 t (nI c) S) (s := ((0 : Int64), (1 : Int32))) (fun k x => x.2 = nI (1 + k) ∧ ∀ i, i < 1 + k → tPres T i = true → i ≠ 0 → lb x.1 i = conB (tName T i) q.2.2.2) (P := fun r => ∀ i, i < 61 → tPres T i = true → i ≠ 0 → lb r i = conB (tName T i) q.2.2.2) 60 (by omega) ⟨rfl, fun i h1 h2 h3 => by omega⟩
    (by
      rintro ⟨x, y⟩ ⟨hy, hs⟩
      have hy' : y = nI 61 := hy
      subst hy'
      unfold F_X1_itemsWithLetters_5
      rw [if_pos le61]
      exact ⟨_, rfl, fun i h1 h2 h3 => hs i (by omega) h2 h3⟩)
    (by
      rintro k ⟨x, y⟩ hk ⟨hy, hs⟩
      have hy' : y = nI (1 + k) := hy
      subst hy'
      have fin : ∀ bb : Bool, (tPres T (1 + k) = true → bb = conB (tName T (1 + k)) q.2.2.2) → ∀ i, i < 1 + (k + 1) → tPres T i = true → i ≠ 0 → lb (withL x (1 + k) bb) i = conB (tName T i) q.2.2.2 := by
        intro bb hb i h1 h2 h3
        rw [lb_withL _ _ (by omega) (by omega)]
        by_cases z : i = 1 + k
        · rw [if_pos z, z]; exact hb (z ▸ h2)
        · rw [if_neg z]; exact hs i (by omega) h2 h3
      unfold F_X1_itemsWithLetters_5 F_X1_itemsWithLetters_51 F_X1_itemsWithLetters_52
      rw [if_neg (ge61 (show 1 + k < 61 by omega))]
      dsimp only
      rw [c_holds_n h (show 1 + k < 61 by omega), Option.bind_some]
      cases hp : tPres T (1 + k)
      · rw [ite0 rfl, with_0, Option.bind_some, nI_1]
        exact ⟨_, rfl, rfl, fin false (fun z => by rw [hp] at z; cases z)⟩
      · rw [ite1 rfl, s1_g3 hs1, Option.bind_some, s1_g4 hs1, Option.bind_some, s1_r4 hs1 (by omega), Option.bind_some, a5, li_10, pk_mul, Nat.mul_comm c 10, c_nameContains h hT hs1 hp (by omega) hq a4, Option.bind_some]
        cases w : conB (tName T (1 + k)) q.2.2.2
        · rw [ite0 rfl, with_0, Option.bind_some, nI_1]
          exact ⟨_, rfl, rfl, fin false (fun _ => w.symm)⟩
        · rw [ite1 rfl, with_1, Option.bind_some, nI_1]
          exact ⟨_, rfl, rfl, fin true (fun _ => w.symm)⟩)
  rw [s1_oF hs1, e, Option.bind_some]
  exact ⟨_, rfl, fun i h1 h2 => hr i (tOk_lt hT h1) h1 h2⟩
theorem c_bound (h : TR S t T) (hT : tOk T) (hk : SK S b T) (hd : CD S c1 L) (hL : L.length ≤ 5) {c : Nat} {q : Cnd} (hc : L[c]? = some q) (hq : q.1 = 4 ∨ q.1 = 5) : ∃ x, F_X1_itemsWithinBound S c1 t b (nI c) = some x ∧ ∀ i, tPres T i = true → i ≠ 0 → lb x i = holdsC T i q := by
  unfold F_X1_itemsWithinBound
  have hc2 := (List.getElem?_eq_some_iff.mp hc).1
  obtain ⟨hs1, -, hrow⟩ := hd
  obtain ⟨a1, a2, a3, -⟩ := hrow c q hc
  have a3' := a3 hq
  have hold : ∀ i, holdsC T i q = if q.1 = 4 then decide (¬ sumB T (lb (famT T i)) ≤ q.2.2.1) else decide (¬ q.2.2.1 ≤ sumB T (lb (famT T i))) := fun i => by
    unfold holdsC
    rw [if_neg (by omega), if_neg (by omega), if_neg (by omega), if_neg (by omega)]
    by_cases z : q.1 = 4
    · rw [if_pos z, if_pos z]
    · rw [if_neg z, if_neg z, if_pos (by omega)]
  have e36 : ∀ (x : Int64) (k : Nat) (v : Int32), F_X1_itemsWithinBound_36 c1 t b (nI c) S x (nI k) v = some (.inl (withL x k (if q.1 = 4 then decide (¬ v ≤ q.2.2.1) else decide (¬ q.2.2.1 ≤ v)), nI (k + 1))) := by
    intro x k v
    unfold F_X1_itemsWithinBound_36 F_X1_itemsWithinBound_87
    rw [s1_g0 hs1, Option.bind_some, s1_r0 hs1 (by omega), Option.bind_some, a1, s1_g2 hs1, Option.bind_some, s1_r2 hs1 (by omega), Option.bind_some, a3']
    by_cases z : q.1 = 4
    · rw [if_neg (fun w => w (show nI q.1 = (4 : Int32) by rw [z]; rfl)), if_pos z, Option.bind_some, s1_r2 hs1 (by omega), Option.bind_some, a3']
      by_cases y : v ≤ q.2.2.1
      · rw [if_pos y, with_0, Option.bind_some, nI_1, decide_eq_false (fun w => w y)]
      · rw [if_neg y, with_1, Option.bind_some, nI_1, decide_eq_true y]
    · rw [if_pos (show ¬ nI q.1 = (4 : Int32) from fun w => z ((nI_eq (b := 4) (by omega) (by decide)).mp w)), if_neg z]
      by_cases y : q.2.2.1 ≤ v
      · rw [if_pos y, with_0, Option.bind_some, nI_1, decide_eq_false (fun w => w y)]
      · rw [if_neg y, with_1, Option.bind_some, nI_1, decide_eq_true y]
  obtain ⟨r, e, hr⟩ := iter_fu (F := F_X1_itemsWithinBound_6 c1 t b (nI c) S) (s := ((0 : Int64), (1 : Int32))) (fun k x => x.2 = nI (1 + k) ∧ ∀ i, i < 1 + k → tPres T i = true → i ≠ 0 → lb x.1 i = holdsC T i q) (P := fun r => ∀ i, i < 61 → tPres T i = true → i ≠ 0 → lb r i = holdsC T i q) 60 (by omega) ⟨rfl, fun i h1 h2 h3 => by omega⟩
    (by
      rintro ⟨x, y⟩ ⟨hy, hs⟩
      have hy' : y = nI 61 := hy
      subst hy'
      unfold F_X1_itemsWithinBound_6
      rw [if_pos le61]
      exact ⟨_, rfl, fun i h1 h2 h3 => hs i (by omega) h2 h3⟩)
    (by
      rintro k ⟨x, y⟩ hk' ⟨hy, hs⟩
      have hy' : y = nI (1 + k) := hy
      subst hy'
      have fin : ∀ bb : Bool, (tPres T (1 + k) = true → bb = holdsC T (1 + k) q) → ∀ i, i < 1 + (k + 1) → tPres T i = true → i ≠ 0 → lb (withL x (1 + k) bb) i = holdsC T i q := by
        intro bb hb i h1 h2 h3
        rw [lb_withL _ _ (by omega) (by omega)]
        by_cases z : i = 1 + k
        · rw [if_pos z, z]; exact hb (z ▸ h2)
        · rw [if_neg z]; exact hs i (by omega) h2 h3
      unfold F_X1_itemsWithinBound_6
      rw [if_neg (ge61 (show 1 + k < 61 by omega))]
      dsimp only
      rw [c_holds_n h (show 1 + k < 61 by omega), Option.bind_some]
      cases hp : tPres T (1 + k)
      · rw [ite0 rfl, e36]
        exact ⟨_, rfl, rfl, fin _ (fun z => by rw [hp] at z; cases z)⟩
      · rw [ite1 rfl, c_familyOf hk (show 1 + k < 61 by omega) hp, Option.bind_some, c_sumOf h (fun j hj z => fam_pres hT (1 + k) hp j (by omega) z), Option.bind_some, e36]
        exact ⟨_, rfl, rfl, fin _ (fun _ => (hold _).symm)⟩)
  rw [s1_oF hs1, e, Option.bind_some]
  exact ⟨_, rfl, fun i h1 h2 => hr i (tOk_lt hT h1) h1 h2⟩
theorem c_fulfil (h : TR S t T) (hT : tOk T) (hk : SK S b T) (hd : CD S c1 L) (hL : L.length ≤ 5) {c : Nat} {q : Cnd} (hc : L[c]? = some q) (hq : cOk q) : ∃ x, F_X1_fulfillingItems S c1 t b (nI c) = some x ∧ ∀ i, tPres T i = true → i ≠ 0 → lb x i = holdsC T i q := by
  unfold F_X1_fulfillingItems
  have hc2 := (List.getElem?_eq_some_iff.mp hc).1
  have hs1 := hd.1
  have a1 := (hd.2.2 c q hc).1
  have e0 : ∀ {j : Nat}, (j < 7) → (nI q.1 = nI j ↔ q.1 = j) := fun hj => nI_eq (by have := hq.1; omega) (by omega)
  rw [s1_oF hs1, s1_g0 hs1, Option.bind_some, s1_r0 hs1 (by omega), Option.bind_some, a1]
  by_cases k0 : q.1 = 0
  · rw [if_pos (show nI q.1 = (0 : Int32) from (e0 (j := 0) (by decide)).mpr k0), c_done h, Option.bind_some]
    refine ⟨_, rfl, fun i hi _ => ?_⟩
    unfold holdsC
    rw [if_pos k0]
    exact (h.2.2.2 i hi).1
  rw [if_neg (show ¬ nI q.1 = (0 : Int32) from fun z => k0 ((e0 (j := 0) (by decide)).mp z))]
  by_cases k1 : q.1 = 1
  · rw [if_pos (show nI q.1 = (1 : Int32) from (e0 (j := 1) (by decide)).mpr k1), c_dated h, Option.bind_some]
    refine ⟨_, rfl, fun i hi _ => ?_⟩
    have hi61 := tOk_lt hT hi
    unfold holdsC
    rw [if_neg k0, if_pos k1, lb_bitsB _ (by omega), hi, decide_eq_true hi61]; rfl
  rw [if_neg (show ¬ nI q.1 = (1 : Int32) from fun z => k1 ((e0 (j := 1) (by decide)).mp z))]
  by_cases k2 : q.1 = 2
  · rw [if_pos (show nI q.1 = (2 : Int32) from (e0 (j := 2) (by decide)).mpr k2), c_leaf h hT, Option.bind_some]
    refine ⟨_, rfl, fun i hi _ => ?_⟩
    have hi61 := tOk_lt hT hi
    unfold holdsC
    rw [if_neg k0, if_neg k1, if_pos k2, lb_bitsB _ (by omega), hi, decide_eq_true hi61]; rfl
  rw [if_neg (show ¬ nI q.1 = (2 : Int32) from fun z => k2 ((e0 (j := 2) (by decide)).mp z))]
  by_cases k3 : q.1 = 3
  · obtain ⟨x, ex, hx⟩ := c_many hk hT
    rw [if_pos (show nI q.1 = (3 : Int32) from (e0 (j := 3) (by decide)).mpr k3), ex, Option.bind_some]
    refine ⟨_, rfl, fun i hi _ => ?_⟩
    unfold holdsC
    rw [if_neg k0, if_neg k1, if_neg k2, if_pos k3]
    exact hx i hi
  rw [if_neg (show ¬ nI q.1 = (3 : Int32) from fun z => k3 ((e0 (j := 3) (by decide)).mp z))]
  by_cases k4 : q.1 = 4
  · obtain ⟨x, ex, hx⟩ := c_bound h hT hk hd hL hc (Or.inl k4)
    rw [if_pos (show nI q.1 = (4 : Int32) from (e0 (j := 4) (by decide)).mpr k4), ex, Option.bind_some]
    exact ⟨_, rfl, hx⟩
  rw [if_neg (show ¬ nI q.1 = (4 : Int32) from fun z => k4 ((e0 (j := 4) (by decide)).mp z))]
  by_cases k5 : q.1 = 5
  · obtain ⟨x, ex, hx⟩ := c_bound h hT hk hd hL hc (Or.inr k5)
    rw [if_pos (show nI q.1 = (5 : Int32) from (e0 (j := 5) (by decide)).mpr k5), ex, Option.bind_some]
    exact ⟨_, rfl, hx⟩
  rw [if_neg (show ¬ nI q.1 = (5 : Int32) from fun z => k5 ((e0 (j := 5) (by decide)).mp z))]
  have k6 : q.1 = 6 := by have := hq.1; omega
  obtain ⟨x, ex, hx⟩ := c_letters h hT hd hL hc k6 hq.2.1
  rw [if_pos (show nI q.1 = (6 : Int32) from (e0 (j := 6) (by decide)).mpr k6), ex, Option.bind_some]
  refine ⟨_, rfl, fun i hi h0 => ?_⟩
  unfold holdsC
  rw [if_neg k0, if_neg k1, if_neg k2, if_neg k3, if_neg k4, if_neg k5]
  exact hx i hi h0
theorem lb_m2 : ∀ i, i < 64 → lb (-2) i = decide (i ≠ 0) := by decide +kernel
theorem c_fitting (h : TR S t T) (hT : tOk T) (hk : SK S b T) (hd : CD S c1 L) (hL : L.length ≤ 5) (hq : ∀ q, q ∈ L → cOk q) : ∃ x, F_X1_fittingItems S c1 t b = some x ∧ ∀ i, i < 64 → lb x i = (tPres T i && decide (i ≠ 0) && fitB T L i) := by
  unfold F_X1_fittingItems
  have hs1 := hd.1
  obtain ⟨r, e, hr⟩ := iter_fu (F := F_X1_fittingItems_12 c1 t b S) (s := (fJ (S.2 t) 6 &&& (-2 : Int64), (0 : Int32))) (fun k x => x.2 = nI k ∧ ∀ i, i < 64 → lb x.1 i = (tPres T i && decide (i ≠ 0) && fitB T (L.take k) i)) (P := fun r => ∀ i, i < 64 → lb r i = (tPres T i && decide (i ≠ 0) && fitB T L i)) L.length (by omega) ⟨rfl, fun i hi => by
      show lb (fJ (S.2 t) 6 &&& (-2 : Int64)) i = _
      rw [lb_and, h.2.2.1 i hi, lb_m2 i hi]
      unfold fitB
      rw [List.take_zero, List.all_nil, Bool.and_true]⟩
    (by
      rintro ⟨x, y⟩ ⟨hy, hs⟩
      have hy' : y = nI L.length := hy
      subst hy'
      unfold F_X1_fittingItems_12
      rw [s1_g5 hs1, Option.bind_some, hd.2.1, if_pos (nI_le (Nat.le_refl _) (by omega))]
      rw [List.take_length] at hs
      exact ⟨_, rfl, hs⟩)
    (by
      rintro k ⟨x, y⟩ hk' ⟨hy, hs⟩
      have hy' : y = nI k := hy
      subst hy'
      have hs' : ∀ i, i < 64 → lb x i = (tPres T i && decide (i ≠ 0) && fitB T (L.take k) i) := hs
      have e1 : L[k]? = some L[k] := List.getElem?_eq_getElem hk'
      have hqm := hq _ (List.getElem_mem hk')
      generalize L[k] = q at *
      obtain ⟨z, ez, hz⟩ := c_fulfil h hT hk hd hL e1 hqm
      unfold F_X1_fittingItems_12
      rw [s1_g5 hs1, Option.bind_some, hd.2.1, if_neg (nI_ge hk' (by omega)), ez, Option.bind_some, s1_g1 hs1, Option.bind_some, s1_r1 hs1 (by omega), Option.bind_some, (hd.2.2 k q e1).2.1]
      have ft : ∀ i, fitB T (L.take (k + 1)) i = (fitB T (L.take k) i && (holdsC T i q != q.2.1)) := fun i => by
        unfold fitB
        rw [List.take_add_one, e1, List.all_append]
        simp
      cases y2 : q.2.1
      · rw [ite0 rfl]
        refine ⟨_, rfl, nI_1 k, fun i hi => ?_⟩
        show lb (x &&& z) i = _
        rw [lb_and, hs' i hi, ft, y2]
        cases y3 : tPres T i
        · simp
        · by_cases y4 : i = 0
          · simp [y4]
          · rw [hz i y3 y4]
            cases holdsC T i q <;> cases fitB T (L.take k) i <;> simp [y4]
      · rw [ite1 rfl]
        refine ⟨_, rfl, nI_1 k, fun i hi => ?_⟩
        show lb (x &&& (z ^^^ (-1 : Int64))) i = _
        rw [lb_and, lb_not _ hi, hs' i hi, ft, y2]
        cases y3 : tPres T i
        · simp
        · by_cases y4 : i = 0
          · simp [y4]
          · rw [hz i y3 y4]
            cases holdsC T i q <;> cases fitB T (L.take k) i <;> simp [y4])
  rw [s1_oF hs1, c_present h, Option.bind_some, e, Option.bind_some]
  exact ⟨_, rfl, hr⟩
end CF2
