/-! one condition is read: the class -/
section CND
variable {S : pS} {tx : List Int32} {p c n : Nat}
def wOne : List Int32 := [111, 110, 101]
def wAted : List Int32 := [97, 116, 101, 100]
def wEaf : List Int32 := [101, 97, 102]
def wAny : List Int32 := [97, 110, 121]
theorem wd_ok {a : Nat} {l : List Int32} (h : ∀ i, i < l.length → oChr a (nI i) = l[i]?) : ∀ (i : Nat) x, l[i]? = some x → oChr a (nI i) = some x := fun i x hx => by
  rw [h i (List.getElem?_eq_some_iff.mp hx).1, hx]
theorem wd_1 : ∀ i, i < wOne.length → oChr 1 (nI i) = wOne[i]? := by decide +kernel
theorem wd_2 : ∀ i, i < wAted.length → oChr 2 (nI i) = wAted[i]? := by decide +kernel
theorem wd_3 : ∀ i, i < wEaf.length → oChr 3 (nI i) = wEaf[i]? := by decide +kernel
theorem wd_4 : ∀ i, i < wAny.length → oChr 4 (nI i) = wAny[i]? := by decide +kernel
theorem wd_5 : ∀ i, i < (100 :: wOne).length → oChr 5 (nI i) = (100 :: wOne)[i]? := by decide +kernel
theorem wd_6 : ∀ i, i < (100 :: wAted).length → oChr 6 (nI i) = (100 :: wAted)[i]? := by decide +kernel
theorem wd_7 : ∀ i, i < (108 :: wEaf).length → oChr 7 (nI i) = (108 :: wEaf)[i]? := by decide +kernel
theorem wd_8 : ∀ i, i < (109 :: wAny).length → oChr 8 (nI i) = (109 :: wAny)[i]? := by decide +kernel
theorem wd_n0 : (∀ x, x ∈ wOne → x ≠ 0) ∧ (∀ x, x ∈ wAted → x ≠ 0) ∧ (∀ x, x ∈ wEaf → x ≠ 0) ∧ (∀ x, x ∈ wAny → x ≠ 0) := by decide
/-- one condition from p on: is it one, where it ends, what it is -/
def ltL (tx : List Int32) (q : Nat) : List Int32 := (tx.drop q).take (ltC tx 10 q)
def rdQ (tx : List Int32) (p : Nat) : Nat := if nxt tx p = 33 then p + 1 else p
def rdK (tx : List Int32) (tu : Bool) (q : Nat) : Bool × Nat × Cnd :=
  if nxt tx q = 100 then (if nxt tx (q + 1) = 111 then (decide (stN tx wOne (q + 1) = 3), q + 1 + stN tx wOne (q + 1), (0, tu, 0, [])) else (decide (stN tx wAted (q + 1) = 4), q + 1 + stN tx wAted (q + 1), (1, tu, 0, [])))
  else if nxt tx q = 108 then (decide (stN tx wEaf (q + 1) = 3), q + 1 + stN tx wEaf (q + 1), (2, tu, 0, []))
  else if nxt tx q = 109 then (decide (stN tx wAny (q + 1) = 3), q + 1 + stN tx wAny (q + 1), (3, tu, 0, []))
  else if nxt tx q = 62 then (decide (0 < nuC tx 3 (vaP tx (q + 1))), vaP tx (q + 1) + nuC tx 3 (vaP tx (q + 1)), (4, tu, vaV tx (q + 1), []))
  else if nxt tx q = 60 then (decide (0 < nuC tx 3 (vaP tx (q + 1))), vaP tx (q + 1) + nuC tx 3 (vaP tx (q + 1)), (5, tu, vaV tx (q + 1), []))
  else if nxt tx q = 126 then (decide (0 < ltC tx 10 (q + 1)), q + 1 + ltC tx 10 (q + 1), (6, tu, 0, ltL tx (q + 1)))
  else (false, q, (0, tu, 0, []))
def rdC (tx : List Int32) (p : Nat) : Bool × Nat × Cnd := rdK tx (decide (nxt tx p = 33)) (rdQ tx p)
theorem ltL_len {q : Nat} (hq : q ≤ tx.length) : (ltL tx q).length = ltC tx 10 q := by
  unfold ltL
  have := ltC_le (tx := tx) (n := 10) hq
  rw [List.length_take, List.length_drop]
  omega
theorem ltL_get {q k : Nat} {x : Int32} (hq : q ≤ tx.length) (h : (ltL tx q)[k]? = some x) : k < ltC tx 10 q ∧ nxt tx (q + k) = x ∧ 97 ≤ x ∧ x ≤ 122 := by
  have h1 := (List.getElem?_eq_some_iff.mp h).1
  rw [ltL_len hq] at h1
  have hle := ltC_le (tx := tx) (n := 10) hq
  unfold ltL at h
  rw [List.getElem?_take, if_pos h1, List.getElem?_drop] at h
  have h2 := nxt_lt (tx := tx) (p := q + k) (by omega)
  rw [h] at h2
  have h3 := (ltC_sp (tx := tx) 10 q).2.1 k h1
  rw [← Option.some.inj h2] at h3
  exact ⟨h1, (Option.some.inj h2).symm, (isLt_iff x).mp h3⟩
theorem nxt_in {x : Int32} (h : nxt tx p = x) (hx : x ≠ 0) : p + 1 ≤ tx.length := by
  rcases Nat.lt_or_ge p tx.length with c | c
  · exact c
  · rw [nxt_ge c] at h
    exact absurd h.symm hx
theorem rdQ_le (hp : p ≤ tx.length) : rdQ tx p ≤ tx.length := by
  unfold rdQ
  by_cases c : nxt tx p = 33
  · rw [if_pos c]; exact nxt_in c (by decide)
  · rw [if_neg c]; exact hp
theorem vaP_le (hp : p ≤ tx.length) : vaP tx p ≤ tx.length := by
  unfold vaP
  by_cases c : nxt tx p = 45
  · rw [if_pos c]; exact nxt_in c (by decide)
  · rw [if_neg c]; exact hp
theorem nuC_le {d : Nat} (hp : p ≤ tx.length) : p + nuC tx d p ≤ tx.length := by
  unfold nuC
  by_cases c : nxt tx p = 48
  · rw [if_pos c]; exact nxt_in c (by decide)
  · rw [if_neg c]; exact dgC_le hp
theorem rdC_ok (hp : p ≤ tx.length) : (rdC tx p).2.1 ≤ tx.length ∧ ((rdC tx p).1 = true → cOk (rdC tx p).2.2 ∧ p < (rdC tx p).2.1) := by
  have hq := rdQ_le (tx := tx) hp
  have hpq : p ≤ rdQ tx p := by unfold rdQ; by_cases c : nxt tx p = 33; rw [if_pos c]; omega; rw [if_neg c]; exact Nat.le_refl _
  have triv : ∀ k : Nat, k ≤ 3 → ∀ tu : Bool, cOk (k, tu, 0, []) := fun k hk tu => ⟨by show k ≤ 6; omega, by show (0 : Nat) ≤ 10; omega, fun z => absurd (show k = 6 from z) (by omega), fun x hx => by cases hx⟩
  have triv2 : ∀ k : Nat, k = 4 ∨ k = 5 → ∀ (tu : Bool) (v : Int32), cOk (k, tu, v, []) := fun k hk tu v => ⟨by show k ≤ 6; omega, by show (0 : Nat) ≤ 10; omega, fun z => absurd (show k = 6 from z) (by omega), fun x hx => by cases hx⟩
  unfold rdC rdK
  by_cases c1 : nxt tx (rdQ tx p) = 100
  · have h1 := nxt_in c1 (by decide)
    rw [if_pos c1]
    by_cases c2 : nxt tx (rdQ tx p + 1) = 111
    · rw [if_pos c2]
      exact ⟨stN_le _ wd_n0.1 h1, fun _ => ⟨triv 0 (by omega) _, by show p < rdQ tx p + 1 + _; omega⟩⟩
    · rw [if_neg c2]
      exact ⟨stN_le _ wd_n0.2.1 h1, fun _ => ⟨triv 1 (by omega) _, by show p < rdQ tx p + 1 + _; omega⟩⟩
  rw [if_neg c1]
  by_cases c2 : nxt tx (rdQ tx p) = 108
  · have h1 := nxt_in c2 (by decide)
    rw [if_pos c2]
    exact ⟨stN_le _ wd_n0.2.2.1 h1, fun _ => ⟨triv 2 (by omega) _, by show p < rdQ tx p + 1 + _; omega⟩⟩
  rw [if_neg c2]
  by_cases c3 : nxt tx (rdQ tx p) = 109
  · have h1 := nxt_in c3 (by decide)
    rw [if_pos c3]
    exact ⟨stN_le _ wd_n0.2.2.2 h1, fun _ => ⟨triv 3 (by omega) _, by show p < rdQ tx p + 1 + _; omega⟩⟩
  rw [if_neg c3]
  have hv : rdQ tx p + 1 ≤ vaP tx (rdQ tx p + 1) := by unfold vaP; by_cases c : nxt tx (rdQ tx p + 1) = 45; rw [if_pos c]; omega; rw [if_neg c]; exact Nat.le_refl _
  by_cases c4 : nxt tx (rdQ tx p) = 62
  · have h1 := nxt_in c4 (by decide)
    rw [if_pos c4]
    exact ⟨nuC_le (vaP_le h1), fun _ => ⟨triv2 4 (by omega) _ _, by show p < vaP tx (rdQ tx p + 1) + _; omega⟩⟩
  rw [if_neg c4]
  by_cases c5 : nxt tx (rdQ tx p) = 60
  · have h1 := nxt_in c5 (by decide)
    rw [if_pos c5]
    exact ⟨nuC_le (vaP_le h1), fun _ => ⟨triv2 5 (by omega) _ _, by show p < vaP tx (rdQ tx p + 1) + _; omega⟩⟩
  rw [if_neg c5]
  by_cases c6 : nxt tx (rdQ tx p) = 126
  · have h1 := nxt_in c6 (by decide)
    rw [if_pos c6]
    refine ⟨ltC_le h1, fun h => ⟨⟨Nat.le_refl 6, ?_, fun _ => ?_, fun x hx => ?_⟩, by show p < rdQ tx p + 1 + _; omega⟩⟩
    · show (ltL tx (rdQ tx p + 1)).length ≤ 10
      rw [ltL_len h1]; exact (ltC_sp (tx := tx) 10 _).1
    · show 0 < (ltL tx (rdQ tx p + 1)).length
      rw [ltL_len h1]; exact of_decide_eq_true h
    · obtain ⟨k, hk, e⟩ := List.mem_iff_getElem.mp hx
      exact (ltL_get h1 ((List.getElem?_eq_getElem hk).trans (congrArg some e))).2.2
  rw [if_neg c6]
  exact ⟨hq, fun z => by cases z⟩
/-! what stands of a condition -/
def rowC (S : pS) (c n : Nat) (q : Cnd) : Prop := cI (S.2 (c + 1)) n = nI q.1 ∧ cI (S.2 (c + 2)) n = (if q.2.1 = true then 1 else 0) ∧ (q.1 = 4 ∨ q.1 = 5 → cI (S.2 (c + 3)) n = q.2.2.1) ∧ (q.1 = 6 → cI (S.2 (c + 5)) n = nI q.2.2.2.length ∧ ∀ (k : Nat) x, q.2.2.2[k]? = some x → cI (S.2 (c + 4)) (10 * n + k) = x)
def Cf (S S' : pS) (c n : Nat) : Prop := S'.1 = S.1 ∧ (∀ q, q ≠ 53 → ¬ (c + 1 ≤ q ∧ q < c + 6) → S'.2 q = S.2 q) ∧ Sh S' c sp1 ∧ (∀ k i, k = 1 ∨ k = 2 ∨ k = 3 ∨ k = 5 → i < n → cI (S'.2 (c + k)) i = cI (S.2 (c + k)) i) ∧ ∀ i, i < 10 * n → cI (S'.2 (c + 4)) i = cI (S.2 (c + 4)) i
theorem Cf_refl (hs : Sh S c sp1) : Cf S S c n := ⟨rfl, fun _ _ _ => rfl, hs, fun _ _ _ _ => rfl, fun _ _ => rfl⟩
theorem Cf_trans {S1 S2 : pS} (h : Cf S S1 c n) (h2 : Cf S1 S2 c n) : Cf S S2 c n := ⟨h2.1.trans h.1, fun q a b => (h2.2.1 q a b).trans (h.2.1 q a b), h2.2.2.1, fun k i a b => (h2.2.2.2.1 k i a b).trans (h.2.2.2.1 k i a b), fun i a => (h2.2.2.2.2 i a).trans (h.2.2.2.2 i a)⟩
theorem Cf_53 {S1 : pS} (hs : Sh S c sp1) (hc : c + 6 ≤ 53) (h : M53 S S1) : Cf S S1 c n := ⟨h.1, fun q a _ => h.2.1 q a, h.2.2 c sp1 hs (by decide) (by omega), fun k i a _ => by rw [h.2.1 (c + k) (by omega)], fun i _ => by rw [h.2.1 (c + 4) (by omega)]⟩
theorem Cf_row {S1 : pS} {j : Nat} {q : Cnd} (h : Cf S S1 c n) (hj : j < n) (hr : rowC S c j q) (hl : q.2.2.2.length ≤ 10) : rowC S1 c j q := by
  obtain ⟨r1, r2, r3, r4⟩ := hr
  refine ⟨by rw [h.2.2.2.1 1 j (by omega) hj]; exact r1, by rw [h.2.2.2.1 2 j (by omega) hj]; exact r2, fun z => by rw [h.2.2.2.1 3 j (by omega) hj]; exact r3 z, fun z => ⟨by rw [h.2.2.2.1 5 j (by omega) hj]; exact (r4 z).1, fun k x hk => ?_⟩⟩
  have := (List.getElem?_eq_some_iff.mp hk).1
  rw [h.2.2.2.2 _ (by omega)]
  exact (r4 z).2 k x hk
theorem XP_wI {a i : Nat} {v : Int32} (h : XP S tx p) (h1 : a ≠ 53) (h2 : a ≠ 54) : XP (wI S a i v) tx p := ⟨XT_wI h.1 h1 h2, by rw [wI_ne _ _ _ (Ne.symm h1)]; exact h.2⟩
/-- one number of a condition is put -/
theorem c_wr {k : Nat} {v : Int32} (hs : Sh S c sp1) (hc : c + 6 ≤ 53) (h : XP S tx p) (hk : k = 1 ∨ k = 2 ∨ k = 3 ∨ k = 5) (hv : cI ((wI S (c + k) n v).2 (c + k)) = pu (cI (S.2 (c + k))) n v) : XP (wI S (c + k) n v) tx p ∧ Cf S (wI S (c + k) n v) c n ∧ cI ((wI S (c + k) n v).2 (c + k)) n = v ∧ ∀ q, q ≠ c + k → (wI S (c + k) n v).2 q = S.2 q := by
  refine ⟨XP_wI h (by omega) (by omega), ⟨rfl, fun q _ a => wI_ne _ _ _ (by omega), sh_wI hs _ _ _, fun k' i _ hi => ?_, fun i _ => ?_⟩, by rw [hv, pu_at], fun q hq => wI_ne _ _ _ hq⟩
  · by_cases e : k' = k
    · subst e; rw [hv, pu_ne _ _ _ (by omega)]
    · rw [wI_ne _ _ _ (show c + k' ≠ c + k by omega)]
  · rw [wI_ne _ _ _ (show c + 4 ≠ c + k by omega)]
theorem bo_nar (b : Bool) : vp_nar .boolean (if b = true then 1 else 0) = if b = true then 1 else 0 := by cases b <;> rfl
/-- the kind is put, a word is read -/
theorem c_kword {a kd : Nat} {l : List Int32} (hs : Sh S c sp1) (hc : c + 6 ≤ 53) (h : XP S tx p) (ht : txOk tx) (hp : p ≤ tx.length) (hn : n < 5) (h0 : ∀ x, x ∈ l → x ≠ 0) (hl : l.length ≤ 10) (el : oLen a = some (nI l.length)) (ec : ∀ (i : Nat) x, l[i]? = some x → oChr a (nI i) = some x) : ∃ S1 S', oSI S (c + 1) .int (nI n) (nI kd) = some S1 ∧ F_X7_takeWord S1 53 a = some (if stN tx l p = l.length then 1 else 0, S') ∧ XP S' tx (p + stN tx l p) ∧ Cf S S' c n ∧ cI (S'.2 (c + 1)) n = nI kd ∧ S'.2 (c + 2) = S.2 (c + 2) := by
  obtain ⟨x1, f1, v1, o1⟩ := c_wr (k := 1) (n := n) (v := nI kd) hs hc h (by omega) (s1_v0 hs n (nI kd))
  obtain ⟨S2, e2, x2, m2⟩ := c_takeWord x1 ht hp h0 hl el ec
  exact ⟨_, S2, s1_w0 hs (by omega) _, e2, x2, Cf_trans f1 (Cf_53 f1.2.2.1 hc m2), by rw [m2.2.1 _ (by omega)]; exact v1, by rw [m2.2.1 _ (by omega)]; exact o1 _ (by omega)⟩
theorem c_bnd {kd : Nat} (hs : Sh S c sp1) (hc : c + 6 ≤ 53) (h : XP S tx p) (ht : txOk tx) (hp : p ≤ tx.length) (hn : n < 5) : ∃ S', F_X1_readBound S c 53 (nI n) (nI kd) = some (if decide (0 < nuC tx 3 (vaP tx p)) = true then 1 else 0, S') ∧ XP S' tx (vaP tx p + nuC tx 3 (vaP tx p)) ∧ Cf S S' c n ∧ cI (S'.2 (c + 1)) n = nI kd ∧ S'.2 (c + 2) = S.2 (c + 2) ∧ (0 < nuC tx 3 (vaP tx p) → cI (S'.2 (c + 3)) n = vaV tx p) := by
  unfold F_X1_readBound
  obtain ⟨x1, f1, v1, o1⟩ := c_wr (k := 1) (n := n) (v := nI kd) hs hc h (by omega) (s1_v0 hs n (nI kd))
  rw [s1_oF hs, s1_g0 hs, Option.bind_some, s1_w0 hs (by omega), Option.bind_some]
  generalize wI S (c + 1) n (nI kd) = S1 at *
  obtain ⟨S2, e2, x2, m2, p2⟩ := c_takeValue x1 ht hp
  have f2 := Cf_53 (n := n) f1.2.2.1 hc m2
  rw [s1_g2 f1.2.2.1, Option.bind_some, e2, Option.bind_some]
  dsimp only
  generalize hw : (if 0 < nuC tx 3 (vaP tx p) then vaV tx p else (-1000000 : Int32)) = w
  obtain ⟨x3, f3, v3, o3⟩ := c_wr (k := 3) (n := n) (v := w) f2.2.2.1 hc x2 (by omega) (s1_v2 f2.2.2.1 n w)
  rw [s1_w2 f2.2.2.1 (by omega), Option.bind_some]
  generalize wI S2 (c + 3) n w = S3 at *
  rw [s1_g2 f3.2.2.1, Option.bind_some, s1_r2 f3.2.2.1 (by omega), Option.bind_some, v3]
  have hval : 0 < nuC tx 3 (vaP tx p) → w = vaV tx p := fun z => by rw [← hw, if_pos z]
  have c1 : cI (S3.2 (c + 1)) n = nI kd := by rw [o3 _ (by omega), m2.2.1 _ (by omega)]; exact v1
  have c2 : S3.2 (c + 2) = S.2 (c + 2) := by rw [o3 _ (by omega), m2.2.1 _ (by omega)]; exact o1 _ (by omega)
  have ff := Cf_trans f1 (Cf_trans f2 f3)
  by_cases z : 0 < nuC tx 3 (vaP tx p)
  · have hv : ¬ w = (-1000000 : Int32) := by
      rw [hval z]
      have := neg_n _ (nuV_lt ht (vaP tx p) 3 (by decide))
      unfold vaV
      by_cases y : nxt tx p = 45
      · rw [if_pos y]; exact this.2.1
      · rw [if_neg y]; exact this.1
    rw [if_neg hv, decide_eq_true z, if_pos rfl]
    exact ⟨S3, rfl, x3, ff, c1, c2, fun _ => v3.trans (hval z)⟩
  · have hv : w = (-1000000 : Int32) := by rw [← hw, if_neg z]
    rw [if_pos hv, decide_eq_false z, if_neg (by decide)]
    exact ⟨S3, rfl, x3, ff, c1, c2, fun y => absurd y z⟩
theorem c_lets (hs : Sh S c sp1) (hc : c + 6 ≤ 53) (h : XP S tx p) (ht : txOk tx) (hp : p ≤ tx.length) (hn : n < 5) : ∃ S', F_X1_readLetters S c 53 (nI n) = some (if decide (0 < ltC tx 10 p) = true then 1 else 0, S') ∧ XP S' tx (p + ltC tx 10 p) ∧ Cf S S' c n ∧ cI (S'.2 (c + 1)) n = nI 6 ∧ S'.2 (c + 2) = S.2 (c + 2) ∧ cI (S'.2 (c + 5)) n = nI (ltC tx 10 p) ∧ ∀ i, i < ltC tx 10 p → cI (S'.2 (c + 4)) (10 * n + i) = nxt tx (p + i) := by
  unfold F_X1_readLetters
  have h10 := (ltC_sp (tx := tx) 10 p).1
  obtain ⟨x1, f1, v1, o1⟩ := c_wr (k := 1) (n := n) (v := nI 6) hs hc h (by omega) (s1_v0 hs n (nI 6))
  have e1 : oSI S (c + 1) .int (nI n) (6 : Int32) = some (wI S (c + 1) n (nI 6)) := s1_w0 hs (by omega) _
  rw [s1_oF hs, s1_g0 hs, Option.bind_some, e1, Option.bind_some]
  generalize wI S (c + 1) n (nI 6) = S1 at *
  have hra : rawA S1 (c + 4) .char 50 := by
    have hsz := f1.2.2.1.1
    have hl1 : sp1.length = 6 := rfl
    obtain ⟨f, r2, r3⟩ := f1.2.2.1.2 4 _ rfl
    exact ⟨by omega, f, r2, r3⟩
  obtain ⟨S2, e2, x2, n2, o2, w2, l2, k2, sh2⟩ := c_takeLetters (a := c + 4) (N := 50) (o := 10 * n) x1 ht hp hra (by omega) (by omega) (by omega) (by decide)
  have s2 : Sh S2 c sp1 := sh2 c sp1 f1.2.2.1 (by decide) (by omega)
  have f2 : Cf S1 S2 c n := ⟨n2, fun q a b => o2 q (by omega) a, s2, fun k i a _ => by rw [o2 (c + k) (by omega) (by omega)], fun i a => k2 i (Or.inl a)⟩
  rw [s1_g4 f1.2.2.1, Option.bind_some, s1_g3 f1.2.2.1, Option.bind_some, li_10, pk_mul, Nat.mul_comm n 10, e2, Option.bind_some]
  dsimp only
  obtain ⟨x3, f3, v3, o3⟩ := c_wr (k := 5) (n := n) (v := nI (ltC tx 10 p)) s2 hc x2 (by omega) (s1_v4 s2 n _)
  rw [s1_w4 s2 (by omega), Option.bind_some]
  generalize wI S2 (c + 5) n (nI (ltC tx 10 p)) = S3 at *
  rw [s1_g4 f3.2.2.1, Option.bind_some, s1_r4 f3.2.2.1 (by omega), Option.bind_some, v3]
  have c1 : cI (S3.2 (c + 1)) n = nI 6 := by rw [o3 _ (by omega), o2 _ (by omega) (by omega)]; exact v1
  have c2 : S3.2 (c + 2) = S.2 (c + 2) := by rw [o3 _ (by omega), o2 _ (by omega) (by omega)]; exact o1 _ (by omega)
  have ff := Cf_trans f1 (Cf_trans f2 f3)
  have c4 : ∀ i, i < ltC tx 10 p → cI (S3.2 (c + 4)) (10 * n + i) = nxt tx (p + i) := fun i hi => by rw [o3 _ (by omega)]; exact l2 i hi
  by_cases z : 0 < ltC tx 10 p
  · rw [if_neg (show ¬ nI (ltC tx 10 p) ≤ (0 : Int32) from nI_ge (a := 0) z (by omega)), decide_eq_true z, if_pos rfl]
    exact ⟨S3, rfl, x3, ff, c1, c2, v3, c4⟩
  · rw [if_pos (show nI (ltC tx 10 p) ≤ (0 : Int32) from by rw [show ltC tx 10 p = 0 by omega]; decide), decide_eq_false z, if_neg (by decide)]
    exact ⟨S3, rfl, x3, ff, c1, c2, v3, c4⟩
theorem c_cond (hs : Sh S c sp1) (hc : c + 6 ≤ 53) (h : XP S tx p) (ht : txOk tx) (hp : p ≤ tx.length) (hn : n < 5) : ∃ S', F_X1_readCondition S c 53 (nI n) = some (if (rdC tx p).1 = true then 1 else 0, S') ∧ XP S' tx (rdC tx p).2.1 ∧ Cf S S' c n ∧ ((rdC tx p).1 = true → rowC S' c n (rdC tx p).2.2) := by
  unfold F_X1_readCondition rdC rdK
  obtain ⟨S1, e1, x1, m1, -⟩ := c_take h ht hp 33 (by decide)
  have f1 := Cf_53 (n := n) hs hc m1
  have s1 := f1.2.2.1
  have hq := rdQ_le (tx := tx) hp
  have x1' : XP S1 tx (rdQ tx p) := x1
  generalize rdQ tx p = q at *
  rw [s1_oF hs, s1_g1 hs, Option.bind_some, e1, Option.bind_some]
  dsimp only
  have etu : (if nxt tx p = 33 then (1 : Int32) else 0) = if decide (nxt tx p = 33) = true then 1 else 0 := by
    by_cases z : nxt tx p = 33
    · rw [if_pos z, decide_eq_true z]; rfl
    · rw [if_neg z, decide_eq_false z]; rfl
  rw [etu]
  generalize decide (nxt tx p = 33) = tu
  obtain ⟨x2, f2, v2, o2⟩ := c_wr (k := 2) (n := n) (v := if tu = true then 1 else 0) s1 hc x1' (by omega) (s1_v1 s1 n (bo_nar tu))
  rw [s1_w1 s1 (by omega), Option.bind_some]
  generalize wI S1 (c + 2) n (if tu = true then 1 else 0) = S2 at *
  have f12 := Cf_trans f1 f2
  -- the first sign, then what follows
  obtain ⟨Sa, ea, xa, ma, pa⟩ := c_take x2 ht hq 100 (by decide)
  have fa := Cf_53 (n := n) f2.2.2.1 hc ma
  have va : cI (Sa.2 (c + 2)) n = if tu = true then 1 else 0 := by rw [ma.2.1 _ (by omega)]; exact v2
  have g0 : Cf S Sa c n := Cf_trans f12 fa
  rw [ea, Option.bind_some]
  dsimp only
  by_cases c1 : nxt tx q = 100
  · rw [if_pos c1] at xa
    rw [itp1 c1, if_pos c1]
    have h1 := pa c1
    have hl80 := ht.1
    unfold F_X1_readDoneOrDated F_X1_readDoneOrDated_14 F_X1_readDoneOrDated_29 F_X1_readDoneOrDated_42
    rw [s1_oF g0.2.2.1, c_next xa ht (by omega), Option.bind_some]
    by_cases c2 : nxt tx (q + 1) = 111
    · obtain ⟨S3, S4, e3, e4, x4, f4, k4, t4⟩ := c_kword (a := 1) (kd := 0) (l := wOne) g0.2.2.1 hc xa ht h1 hn wd_n0.1 (by decide) rfl (wd_ok wd_1)
      rw [if_neg (fun w => w c2), if_pos c2, s1_g0 g0.2.2.1, Option.bind_some, if_neg (by decide), show oSI Sa (c + 1) .int (nI n) (0 : Int32) = some S3 from e3, Option.bind_some, if_neg (by decide), e4, Option.bind_some]
      have ez : (if stN tx wOne (q + 1) = wOne.length then (1 : Int32) else 0) = if decide (stN tx wOne (q + 1) = 3) = true then 1 else 0 := by
        by_cases z : stN tx wOne (q + 1) = 3
        · rw [if_pos (show stN tx wOne (q + 1) = wOne.length from z), decide_eq_true z]; rfl
        · rw [if_neg (show ¬ stN tx wOne (q + 1) = wOne.length from z), decide_eq_false z]; rfl
      rw [ez, oZ_b, Option.bind_some, Option.bind_some]
      dsimp only
      rw [oZ_b, Option.bind_some]
      exact ⟨S4, rfl, x4, Cf_trans g0 f4, fun _ => ⟨k4, by rw [t4]; exact va, (fun z => by rcases z with z | z <;> cases z), (fun z => by cases z)⟩⟩
    · obtain ⟨S3, S4, e3, e4, x4, f4, k4, t4⟩ := c_kword (a := 2) (kd := 1) (l := wAted) g0.2.2.1 hc xa ht h1 hn wd_n0.2.1 (by decide) rfl (wd_ok wd_2)
      rw [if_pos c2, if_neg c2, s1_g0 g0.2.2.1, Option.bind_some, if_pos rfl, show oSI Sa (c + 1) .int (nI n) (1 : Int32) = some S3 from e3, Option.bind_some, if_pos rfl, e4, Option.bind_some]
      have ez : (if stN tx wAted (q + 1) = wAted.length then (1 : Int32) else 0) = if decide (stN tx wAted (q + 1) = 4) = true then 1 else 0 := by
        by_cases z : stN tx wAted (q + 1) = 4
        · rw [if_pos (show stN tx wAted (q + 1) = wAted.length from z), decide_eq_true z]; rfl
        · rw [if_neg (show ¬ stN tx wAted (q + 1) = wAted.length from z), decide_eq_false z]; rfl
      rw [ez, oZ_b, Option.bind_some, Option.bind_some]
      dsimp only
      rw [oZ_b, Option.bind_some]
      exact ⟨S4, rfl, x4, Cf_trans g0 f4, fun _ => ⟨k4, by rw [t4]; exact va, (fun z => by rcases z with z | z <;> cases z), (fun z => by cases z)⟩⟩
  rw [if_neg c1] at xa
  rw [itp0 c1, if_neg c1]
  obtain ⟨Sb, eb, xb, mb, pb⟩ := c_take xa ht hq 108 (by decide)
  have g1 : Cf S Sb c n := Cf_trans g0 (Cf_53 g0.2.2.1 hc mb)
  have vb : cI (Sb.2 (c + 2)) n = if tu = true then 1 else 0 := by rw [mb.2.1 _ (by omega)]; exact va
  rw [eb, Option.bind_some]
  dsimp only
  by_cases c2 : nxt tx q = 108
  · rw [if_pos c2] at xb
    rw [itp1 c2, if_pos c2]
    obtain ⟨S3, S4, e3, e4, x4, f4, k4, t4⟩ := c_kword (a := 3) (kd := 2) (l := wEaf) g1.2.2.1 hc xb ht (pb c2) hn wd_n0.2.2.1 (by decide) rfl (wd_ok wd_3)
    rw [s1_g0 g1.2.2.1, Option.bind_some, show oSI Sb (c + 1) .int (nI n) (2 : Int32) = some S3 from e3, Option.bind_some, e4, Option.bind_some]
    have ez : (if stN tx wEaf (q + 1) = wEaf.length then (1 : Int32) else 0) = if decide (stN tx wEaf (q + 1) = 3) = true then 1 else 0 := by
      by_cases z : stN tx wEaf (q + 1) = 3
      · rw [if_pos (show stN tx wEaf (q + 1) = wEaf.length from z), decide_eq_true z]; rfl
      · rw [if_neg (show ¬ stN tx wEaf (q + 1) = wEaf.length from z), decide_eq_false z]; rfl
    dsimp only
    rw [ez, oZ_b, Option.bind_some]
    exact ⟨S4, rfl, x4, Cf_trans g1 f4, fun _ => ⟨k4, by rw [t4]; exact vb, (fun z => by rcases z with z | z <;> cases z), (fun z => by cases z)⟩⟩
  rw [if_neg c2] at xb
  rw [itp0 c2, if_neg c2]
  obtain ⟨Sd, ed, xd, md, pd⟩ := c_take xb ht hq 109 (by decide)
  have g2 : Cf S Sd c n := Cf_trans g1 (Cf_53 g1.2.2.1 hc md)
  have vd : cI (Sd.2 (c + 2)) n = if tu = true then 1 else 0 := by rw [md.2.1 _ (by omega)]; exact vb
  rw [ed, Option.bind_some]
  dsimp only
  by_cases c3 : nxt tx q = 109
  · rw [if_pos c3] at xd
    rw [itp1 c3, if_pos c3]
    obtain ⟨S3, S4, e3, e4, x4, f4, k4, t4⟩ := c_kword (a := 4) (kd := 3) (l := wAny) g2.2.2.1 hc xd ht (pd c3) hn wd_n0.2.2.2 (by decide) rfl (wd_ok wd_4)
    rw [s1_g0 g2.2.2.1, Option.bind_some, show oSI Sd (c + 1) .int (nI n) (3 : Int32) = some S3 from e3, Option.bind_some, e4, Option.bind_some]
    have ez : (if stN tx wAny (q + 1) = wAny.length then (1 : Int32) else 0) = if decide (stN tx wAny (q + 1) = 3) = true then 1 else 0 := by
      by_cases z : stN tx wAny (q + 1) = 3
      · rw [if_pos (show stN tx wAny (q + 1) = wAny.length from z), decide_eq_true z]; rfl
      · rw [if_neg (show ¬ stN tx wAny (q + 1) = wAny.length from z), decide_eq_false z]; rfl
    dsimp only
    rw [ez, oZ_b, Option.bind_some]
    exact ⟨S4, rfl, x4, Cf_trans g2 f4, fun _ => ⟨k4, by rw [t4]; exact vd, (fun z => by rcases z with z | z <;> cases z), (fun z => by cases z)⟩⟩
  rw [if_neg c3] at xd
  rw [itp0 c3, if_neg c3]
  obtain ⟨Se, ee, xe, me, pe⟩ := c_take xd ht hq 62 (by decide)
  have g3 : Cf S Se c n := Cf_trans g2 (Cf_53 g2.2.2.1 hc me)
  have ve : cI (Se.2 (c + 2)) n = if tu = true then 1 else 0 := by rw [me.2.1 _ (by omega)]; exact vd
  rw [ee, Option.bind_some]
  dsimp only
  by_cases c4 : nxt tx q = 62
  · rw [if_pos c4] at xe
    rw [itp1 c4, if_pos c4]
    obtain ⟨S4, e4, x4, f4, k4, t4, w4⟩ := c_bnd (kd := 4) g3.2.2.1 hc xe ht (pe c4) hn
    rw [show F_X1_readBound Se c 53 (nI n) (4 : Int32) = _ from e4, Option.bind_some]
    dsimp only
    rw [oZ_b, Option.bind_some]
    exact ⟨S4, rfl, x4, Cf_trans g3 f4, fun y => ⟨k4, by rw [t4]; exact ve, fun _ => w4 (of_decide_eq_true y), (fun z => by cases z)⟩⟩
  rw [if_neg c4] at xe
  rw [itp0 c4, if_neg c4]
  obtain ⟨Sg, eg, xg, mg, pg⟩ := c_take xe ht hq 60 (by decide)
  have g4 : Cf S Sg c n := Cf_trans g3 (Cf_53 g3.2.2.1 hc mg)
  have vg : cI (Sg.2 (c + 2)) n = if tu = true then 1 else 0 := by rw [mg.2.1 _ (by omega)]; exact ve
  rw [eg, Option.bind_some]
  dsimp only
  by_cases c5 : nxt tx q = 60
  · rw [if_pos c5] at xg
    rw [itp1 c5, if_pos c5]
    obtain ⟨S4, e4, x4, f4, k4, t4, w4⟩ := c_bnd (kd := 5) g4.2.2.1 hc xg ht (pg c5) hn
    rw [show F_X1_readBound Sg c 53 (nI n) (5 : Int32) = _ from e4, Option.bind_some]
    dsimp only
    rw [oZ_b, Option.bind_some]
    exact ⟨S4, rfl, x4, Cf_trans g4 f4, fun y => ⟨k4, by rw [t4]; exact vg, fun _ => w4 (of_decide_eq_true y), (fun z => by cases z)⟩⟩
  rw [if_neg c5] at xg
  rw [itp0 c5, if_neg c5]
  obtain ⟨Sh', eh, xh, mh, ph⟩ := c_take xg ht hq 126 (by decide)
  have g5 : Cf S Sh' c n := Cf_trans g4 (Cf_53 g4.2.2.1 hc mh)
  have vh : cI (Sh'.2 (c + 2)) n = if tu = true then 1 else 0 := by rw [mh.2.1 _ (by omega)]; exact vg
  rw [eh, Option.bind_some]
  dsimp only
  by_cases c6 : nxt tx q = 126
  · rw [if_pos c6] at xh
    rw [itp1 c6, if_pos c6]
    obtain ⟨S4, e4, x4, f4, k4, t4, w4, l4⟩ := c_lets g5.2.2.1 hc xh ht (ph c6) hn
    rw [e4, Option.bind_some]
    dsimp only
    have fin : (if (if decide (0 < ltC tx 10 (q + 1)) = true then (1 : Int32) else 0) = 0 then some ((0 : Int32), S4) else some ((1 : Int32), S4)) = some (if decide (0 < ltC tx 10 (q + 1)) = true then (1 : Int32) else 0, S4) := by
      cases decide (0 < ltC tx 10 (q + 1)) <;> rfl
    rw [fin]
    refine ⟨S4, rfl, x4, Cf_trans g5 f4, fun _ => ⟨k4, by rw [t4]; exact vh, (fun z => by rcases z with z | z <;> cases z), fun _ => ⟨?_, fun k x hk => ?_⟩⟩⟩
    · show cI (S4.2 (c + 5)) n = nI (ltL tx (q + 1)).length
      rw [ltL_len (ph c6)]; exact w4
    · obtain ⟨b1, b2, -⟩ := ltL_get (ph c6) hk
      rw [l4 k b1, b2]
  rw [if_neg c6] at xh
  rw [itp0 c6, if_neg c6]
  exact ⟨Sh', rfl, xh, g5, fun z => by cases z⟩
end CND
