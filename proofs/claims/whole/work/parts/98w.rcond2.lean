/-! one condition is read: the reference, all of it -/
section RC2
variable {S : pS} {tx : List Int32} {p q m n : Nat}
def rowN (S : pS) (m n : Nat) (q : Cnd) : Prop := cI (S.2 (m + 20)) n = nI q.1 ∧ cI (S.2 (m + 24)) n = (if q.2.1 = true then 1 else 0) ∧ (q.1 = 4 ∨ q.1 = 5 → cI (S.2 (m + 21)) n = q.2.2.1) ∧ (q.1 = 6 → cI (S.2 (m + 22)) n = nI q.2.2.2.length ∧ ∀ (k : Nat) x, q.2.2.2[k]? = some x → cI (S.2 (m + 23)) (10 * n + k) = x)
def Rf (S S' : pS) (m n : Nat) : Prop := MR S S' m [20, 21, 22, 23, 24] [21, 23, 36] ∧ (∀ k i, k = 20 ∨ k = 21 ∨ k = 22 ∨ k = 24 → i < n → cI (S'.2 (m + k)) i = cI (S.2 (m + k)) i) ∧ ∀ i, i < 10 * n → cI (S'.2 (m + 23)) i = cI (S.2 (m + 23)) i
theorem Rf_refl (hs : Sh S m sp10) : Rf S S m n := ⟨MR_refl hs _ _, fun _ _ _ _ => rfl, fun _ _ => rfl⟩
theorem Rf_trans {S1 S2 : pS} (h : Rf S S1 m n) (h2 : Rf S1 S2 m n) : Rf S S2 m n := ⟨MR_trans h.1 h2.1, fun k i a b => (h2.2.1 k i a b).trans (h.2.1 k i a b), fun i a => (h2.2.2 i a).trans (h.2.2 i a)⟩
theorem Rf_M {S1 : pS} {ks : List Nat} (h : MR S S1 m [] ks) (hk : ∀ k, k ∈ ks → k ∈ [21, 23, 36]) : Rf S S1 m n := ⟨MR_sub h (by simp) hk, fun k i a _ => by rw [h.2.2.2.1 k (by simp) (by omega)], fun i _ => by rw [h.2.2.2.1 23 (by simp) (by decide)]⟩
theorem Rf_row {S1 : pS} {j : Nat} {q : Cnd} (h : Rf S S1 m n) (hj : j < n) (hr : rowN S m j q) (hl : q.2.2.2.length ≤ 10) : rowN S1 m j q := by
  obtain ⟨r1, r2, r3, r4⟩ := hr
  refine ⟨by rw [h.2.1 20 j (by omega) hj]; exact r1, by rw [h.2.1 24 j (by omega) hj]; exact r2, fun z => by rw [h.2.1 21 j (by omega) hj]; exact r3 z, fun z => ⟨by rw [h.2.1 22 j (by omega) hj]; exact (r4 z).1, fun k x hk => ?_⟩⟩
  have := (List.getElem?_eq_some_iff.mp hk).1
  rw [h.2.2 _ (by omega)]
  exact (r4 z).2 k x hk
theorem r_wr {k : Nat} {v : Int32} (hs : Sh S m sp10) (hk : k = 20 ∨ k = 21 ∨ k = 22 ∨ k = 24) (hv : cI ((wI S (m + k) n v).2 (m + k)) = pu (cI (S.2 (m + k))) n v) : Rf S (wI S (m + k) n v) m n ∧ MR S (wI S (m + k) n v) m [k] [] ∧ cI ((wI S (m + k) n v).2 (m + k)) n = v ∧ ∀ j, j ≠ k → (wI S (m + k) n v).2 (m + j) = S.2 (m + j) := by
  have mm : MR S (wI S (m + k) n v) m [k] [] := MR_I (MR_refl hs [k] []) (by simp) (by omega) (by omega) n v
  refine ⟨⟨MR_sub mm (fun j hj => by rw [List.mem_singleton] at hj; subst hj; rcases hk with z | z | z | z <;> subst z <;> decide) (by simp), fun k' i _ hi => ?_, fun i _ => ?_⟩, mm, by rw [hv, pu_at], fun j hj => wI_ne _ _ _ (by omega)⟩
  · by_cases e : k' = k
    · subst e; rw [hv, pu_ne _ _ _ (by omega)]
    · rw [wI_ne _ _ _ (show m + k' ≠ m + k by omega)]
  · rw [wI_ne _ _ _ (show m + 23 ≠ m + k by omega)]
theorem r_206 (hs : Sh S m sp10) (h36 : fI (S.2 m) 36 = nI n) : ∃ S', F_X10_readsCondition_206 S m = some S' ∧ MR S S' m [] [36] ∧ fI (S'.2 m) 36 = nI (n + 1) := by
  unfold F_X10_readsCondition_206
  rw [s10_g36 hs, Option.bind_some, h36, nI_1, s10_p36 hs, Option.bind_some]
  exact ⟨_, rfl, r_setF hs _ (s10_k36 hs hs _), s10_v36 hs _⟩
/-- what the condition's reading ends in -/
def rcE (S S' : pS) (m n : Nat) (tx : List Int32) (r : Bool × Nat × Cnd) : Prop := Rf S S' m n ∧ fI (S'.2 m) 36 = nI (n + 1) ∧ ∃ g : Bool, RP S' m tx r.2.1 g ∧ (r.1 = false → g = false) ∧ (r.1 = true → g = true ∨ (g = false ∧ isLt (nxt tx r.2.1) = true)) ∧ (g = true → rowN S' m n r.2.2)
theorem rc_end {S1 : pS} {r : Bool × Nat × Cnd} {g : Bool} (f : Rf S S1 m n) (h36 : fI (S1.2 m) 36 = nI n) (hr : RP S1 m tx r.2.1 g) (h1 : r.1 = false → g = false) (h2 : r.1 = true → g = true ∨ (g = false ∧ isLt (nxt tx r.2.1) = true)) (h3 : g = true → rowN S1 m n r.2.2) : ∃ S', F_X10_readsCondition_206 S1 m = some S' ∧ rcE S S' m n tx r := by
  obtain ⟨S2, e, m2, v2⟩ := r_206 f.1.1 h36
  refine ⟨S2, e, Rf_trans f (Rf_M m2 (by decide)), v2, g, RP_fr hr m2 (by simp) (by decide), h1, h2, fun z => ?_⟩
  have a : ∀ j, j ≠ 0 → S2.2 (m + j) = S1.2 (m + j) := fun j hj => m2.2.2.2.1 j (by simp) hj
  unfold rowN
  rw [a 20 (by decide), a 21 (by decide), a 22 (by decide), a 23 (by decide), a 24 (by decide)]
  exact h3 z
theorem Rf_36 {S1 : pS} (hs : Sh S m sp10) {k : Nat} {v : Int32} (hk : k ≠ 0) : fI ((wI S (m + k) n v).2 m) 36 = fI (S.2 m) 36 := by rw [wI_ne _ _ _ (by omega)]
theorem r_cval {kd : Nat} {tu : Bool} (hs : Sh S m sp10) (h : RP S m tx q true) (ht : txOk tx) (hq : q ≤ tx.length) (h36 : fI (S.2 m) 36 = nI n) (hn : n < 5) (h24 : cI (S.2 (m + 24)) n = if tu = true then 1 else 0) (hkd : kd = 4 ∨ kd = 5) :
    ∃ S', ((oGA S m 10 31).bind fun x83 => (oGI S m 10 36).bind fun x85 => (oSI S x83 .int x85 (nI kd)).bind fun S87 => (oGA S87 m 10 32).bind fun x89 => (oGI S87 m 10 36).bind fun x91 => (F_X10_value S87 m).bind fun q93 => (oSI q93.2 x89 .int x91 q93.1).bind fun S95 => F_X10_readsCondition_206 S95 m) = some S' ∧ rcE S S' m n tx (decide (0 < nuC tx 3 (vaP tx q)), vaP tx q + nuC tx 3 (vaP tx q), (kd, tu, vaV tx q, [])) := by
  rw [s10_g31 hs, Option.bind_some, s10_g36 hs, Option.bind_some, h36, s10_w31 hs hn, Option.bind_some]
  obtain ⟨f1, m1, v1, o1⟩ := r_wr (k := 20) (n := n) (v := nI kd) hs (by omega) (s10_v31 hs n _)
  have r1 := RP_fr h m1 (by decide) (by decide)
  have h36a : fI ((wI S (m + 20) n (nI kd)).2 m) 36 = nI n := by rw [wI_ne _ _ _ (by omega)]; exact h36
  generalize wI S (m + 20) n (nI kd) = S1 at *
  obtain ⟨S2, v, e2, m2, r2, hv⟩ := r_value m1.1 r1 ht hq
  have f2 : Rf S1 S2 m n := Rf_M m2 (by decide)
  have h36b : fI (S2.2 m) 36 = nI n := by rw [m2.2.2.2.2 36 (by decide)]; exact h36a
  rw [s10_g32 m1.1, Option.bind_some, s10_g36 m1.1, Option.bind_some, h36a, e2, Option.bind_some]
  dsimp only
  rw [s10_w32 m2.1 hn, Option.bind_some]
  obtain ⟨f3, m3, v3, o3⟩ := r_wr (k := 21) (n := n) (v := v) m2.1 (by omega) (s10_v32 m2.1 n _)
  have r3 := RP_fr r2 m3 (by decide) (by decide)
  have h36c : fI ((wI S2 (m + 21) n v).2 m) 36 = nI n := by rw [wI_ne _ _ _ (by omega)]; exact h36b
  generalize wI S2 (m + 21) n v = S3 at *
  refine rc_end (Rf_trans f1 (Rf_trans f2 f3)) h36c r3 (fun z => z) (fun z => Or.inl z) (fun z => ⟨?_, ?_, fun _ => ?_, fun y => by rcases hkd with w | w <;> (rw [w] at y; cases y)⟩)
  · rw [o3 20 (by decide), m2.2.2.2.1 20 (by simp) (by decide)]; exact v1
  · rw [o3 24 (by decide), m2.2.2.2.1 24 (by simp) (by decide), o1 24 (by decide)]; exact h24
  · rw [v3]; exact hv (of_decide_eq_true z)
theorem r_ccopy {z s : Nat} (hs : Sh S m sp10) (h36 : fI (S.2 m) 36 = nI n) (hn : n < 5) (hz : z ≤ 10) (hsz : s + z ≤ 80) (h22 : cI (S.2 (m + 22)) n = nI z) : ∃ S', iter (F_X10_readsCondition_158 m (nI s)) fu ((0 : Int32), S) = some S' ∧ MR S S' m [23] [] ∧ (∀ k, k < z → cI (S'.2 (m + 23)) (10 * n + k) = cI (S.2 (m + 6)) (s + k)) ∧ ∀ i, i < 10 * n → cI (S'.2 (m + 23)) i = cI (S.2 (m + 23)) i := by
  refine iter_fu (F := F_X10_readsCondition_158 m (nI s)) (s := ((0 : Int32), S)) (fun k x => x.1 = nI k ∧ MR S x.2 m [23] [] ∧ (∀ j, j < k → cI (x.2.2 (m + 23)) (10 * n + j) = cI (S.2 (m + 6)) (s + j)) ∧ ∀ i, i < 10 * n → cI (x.2.2 (m + 23)) i = cI (S.2 (m + 23)) i) z (by omega) ⟨rfl, MR_refl hs _ _, fun j hj => absurd hj (Nat.not_lt_zero _), fun _ _ => rfl⟩ ?_ ?_
  · rintro ⟨b, S1⟩ ⟨h1, m1, c1, d1⟩
    dsimp only at h1 m1 c1 d1
    subst h1
    unfold F_X10_readsCondition_158
    rw [s10_g33 m1.1, Option.bind_some, s10_g36 m1.1, Option.bind_some, m1.2.2.2.2 36 (by simp), h36, s10_r33 m1.1 hn, Option.bind_some, m1.2.2.2.1 22 (by decide) (by decide), h22, if_pos (Int32.le_refl _)]
    exact ⟨_, rfl, m1, c1, d1⟩
  · rintro k ⟨b, S1⟩ hk ⟨h1, m1, c1, d1⟩
    dsimp only at h1 m1 c1 d1
    subst h1
    unfold F_X10_readsCondition_158
    rw [s10_g33 m1.1, Option.bind_some, s10_g36 m1.1, Option.bind_some, m1.2.2.2.2 36 (by simp), h36, s10_r33 m1.1 hn, Option.bind_some, m1.2.2.2.1 22 (by decide) (by decide), h22, if_neg (nI_ge hk (by omega)), s10_g34 m1.1, Option.bind_some, Option.bind_some, s10_g9 m1.1, Option.bind_some]
    dsimp only
    rw [nI_add, s10_r9 m1.1 (by omega), Option.bind_some, li_10, pk_mul, nI_add, s10_w34 m1.1 (by omega), Option.bind_some, nI_1]
    have m2 := MR_I m1 (j := 23) (by decide) (by decide) (by decide) (10 * n + k) (cI (S1.2 (m + 6)) (s + k))
    have v2 := s10_v34 m1.1 (10 * n + k) (cI (S1.2 (m + 6)) (s + k))
    refine ⟨_, rfl, rfl, m2, fun j hj => ?_, fun i hi => ?_⟩
    · dsimp only
      rw [v2]
      by_cases c : j = k
      · rw [c, pu_at, m1.2.2.2.1 6 (by decide) (by decide)]
      · rw [pu_ne _ _ _ (by omega)]; exact c1 j (by omega)
    · dsimp only
      rw [v2, pu_ne _ _ _ (by omega)]
      exact d1 i hi
theorem r_clet {tu : Bool} (hs : Sh S m sp10) (h : RP S m tx q true) (ht : txOk tx) (hq : q ≤ tx.length) (h36 : fI (S.2 m) 36 = nI n) (hn : n < 5) (h24 : cI (S.2 (m + 24)) n = if tu = true then 1 else 0) :
    ∃ S', ((oGA S m 10 31).bind fun x33 => (oGI S m 10 36).bind fun x35 => (oSI S x33 .int x35 (6 : Int32)).bind fun S37 => (F_X10_letters S37 m).bind fun q39 => (oGA q39.2 m 10 33).bind fun x41 => (oGI q39.2 m 10 36).bind fun x43 => (oGI q39.2 m 10 23).bind fun x45 => if x45 = 0 then (F_X10_readsCondition_155 q39.2 m q39.1 x41 x43 (0 : Int32)) else ((oGI q39.2 m 10 21).bind fun x67 => F_X10_readsCondition_155 q39.2 m q39.1 x41 x43 (x67 - q39.1))) = some S' ∧ rcE S S' m n tx (decide (0 < ltC tx 10 q), q + ltC tx 10 q, (6, tu, 0, ltL tx q)) := by
  have hl80 := ht.1
  have h10 := (ltC_sp (tx := tx) 10 q).1
  have hle := ltC_le (tx := tx) (n := 10) hq
  have e1 : oSI S (m + 20) .int (nI n) (6 : Int32) = some (wI S (m + 20) n (nI 6)) := s10_w31 hs hn _
  rw [s10_g31 hs, Option.bind_some, s10_g36 hs, Option.bind_some, h36, e1, Option.bind_some]
  obtain ⟨f1, m1, v1, o1⟩ := r_wr (k := 20) (n := n) (v := nI 6) hs (by omega) (s10_v31 hs n _)
  have r1 := RP_fr h m1 (by decide) (by decide)
  have h36a : fI ((wI S (m + 20) n (nI 6)).2 m) 36 = nI n := by rw [wI_ne _ _ _ (by omega)]; exact h36
  generalize wI S (m + 20) n (nI 6) = S1 at *
  obtain ⟨S2, e2, m2, r2⟩ := r_letters m1.1 r1 ht hq
  have f2 : Rf S1 S2 m n := Rf_M m2 (by decide)
  have h36b : fI (S2.2 m) 36 = nI n := by rw [m2.2.2.2.2 36 (by decide)]; exact h36a
  have el : letR tx q true = (q + ltC tx 10 q, decide (0 < ltC tx 10 q) && !(decide (ltC tx 10 q = 10) && isLt (nxt tx (q + 10)))) := by
    unfold letR
    rw [if_pos rfl]
  rw [el] at r2
  dsimp only at r2
  rw [e2, Option.bind_some]
  dsimp only
  rw [s10_g33 m2.1, Option.bind_some, s10_g36 m2.1, Option.bind_some, h36b, s10_g23 m2.1, Option.bind_some, r2.2.2.1]
  have key : ∀ (g : Bool) (z : Nat), g = (decide (0 < ltC tx 10 q) && !(decide (ltC tx 10 q = 10) && isLt (nxt tx (q + 10)))) → (z = if g = true then ltC tx 10 q else 0) → ∃ S', F_X10_readsCondition_155 S2 m (nI q) (m + 22) (nI n) (nI z) = some S' ∧ rcE S S' m n tx (decide (0 < ltC tx 10 q), q + ltC tx 10 q, (6, tu, 0, ltL tx q)) := by
    intro g z hg hz
    have hz10 : z ≤ ltC tx 10 q := by rw [hz]; cases g; exact Nat.zero_le _; exact Nat.le_refl _
    unfold F_X10_readsCondition_155
    rw [s10_w33 m2.1 hn, Option.bind_some]
    obtain ⟨f3, m3, v3, o3⟩ := r_wr (k := 22) (n := n) (v := nI z) m2.1 (by omega) (s10_v33 m2.1 n _)
    have r3 := RP_fr r2 m3 (by decide) (by decide)
    have h36c : fI ((wI S2 (m + 22) n (nI z)).2 m) 36 = nI n := by rw [wI_ne _ _ _ (by omega)]; exact h36b
    generalize wI S2 (m + 22) n (nI z) = S3 at *
    obtain ⟨S4, e4, m4, c4, d4⟩ := r_ccopy (s := q) m3.1 h36c hn (show z ≤ 10 by omega) (by omega) v3
    have r4 := RP_fr r3 m4 (by decide) (by simp)
    have h36d : fI (S4.2 m) 36 = nI n := by rw [m4.2.2.2.2 36 (by simp)]; exact h36c
    have f4 : Rf S3 S4 m n := ⟨MR_sub m4 (by decide) (by simp), fun k i a _ => by rw [m4.2.2.2.1 k (by rw [List.mem_singleton]; omega) (by omega)], d4⟩
    rw [e4, Option.bind_some]
    refine rc_end (Rf_trans f1 (Rf_trans f2 (Rf_trans f3 f4))) h36d r4 (fun y => ?_) (fun y => ?_) (fun y => ⟨?_, ?_, (fun w => by rcases w with w | w <;> cases w), fun _ => ⟨?_, fun k x hk => ?_⟩⟩)
    · have y' : decide (0 < ltC tx 10 q) = false := y
      rw [y']; rfl
    · have y' : decide (0 < ltC tx 10 q) = true := y
      rw [y', Bool.true_and]
      cases c : (decide (ltC tx 10 q = 10) && isLt (nxt tx (q + 10)))
      · exact Or.inl rfl
      · right
        rw [Bool.and_eq_true, decide_eq_true_eq] at c
        refine ⟨rfl, ?_⟩
        show isLt (nxt tx (q + ltC tx 10 q)) = true
        rw [c.1]; exact c.2
    · rw [m4.2.2.2.1 20 (by decide) (by decide), o3 20 (by decide), m2.2.2.2.1 20 (by simp) (by decide)]; exact v1
    · rw [m4.2.2.2.1 24 (by decide) (by decide), o3 24 (by decide), m2.2.2.2.1 24 (by simp) (by decide), o1 24 (by decide)]; exact h24
    · show cI (S4.2 (m + 22)) n = nI (ltL tx q).length
      rw [ltL_len hq, m4.2.2.2.1 22 (by decide) (by decide), v3, hz, if_pos (show g = true from hg.trans y)]
    · obtain ⟨b1, b2, -⟩ := ltL_get hq hk
      have hzz : z = ltC tx 10 q := by rw [hz, if_pos (show g = true from hg.trans y)]
      rw [c4 k (by omega), r3.2.2.2 _ _ (nxt_lt (show q + k < tx.length by omega)), b2]
  cases hg : (decide (0 < ltC tx 10 q) && !(decide (ltC tx 10 q = 10) && isLt (nxt tx (q + 10))))
  · rw [ite0 rfl]
    exact key false 0 hg.symm rfl
  · rw [ite1 rfl, s10_g21 m2.1, Option.bind_some, r2.1, pk_sub (by omega), Nat.add_sub_cancel_left]
    exact key true _ hg.symm rfl
theorem r_cwrd {r : Bool × Nat × Cnd} (hs : Sh S m sp10) (h : RP S m tx q true) (ht : txOk tx) (hq : q ≤ tx.length) (h36 : fI (S.2 m) 36 = nI n) (hn : n < 5) (h24 : cI (S.2 (m + 24)) n = if r.2.2.2.1 = true then 1 else 0) (h1 : r.2.1 = q + (wRes tx q).1) (h2 : r.1 = decide (¬ (wRes tx q).2 = -1)) (h3 : r.1 = true → (wRes tx q).2 = nI r.2.2.1) (h4 : r.2.2.1 ≤ 3) :
    ∃ S', ((F_X10_readsWord S m).bind fun q27 => F_X10_readsCondition_206 q27 m) = some S' ∧ rcE S S' m n tx r := by
  obtain ⟨S1, e1, m1, r1, v1⟩ := r_word hs h ht hq h36 hn
  rw [e1, Option.bind_some]
  have f1 : Rf S S1 m n := by
    refine ⟨MR_sub m1 (by decide) (by decide), fun k i a hi => ?_, fun i _ => by rw [m1.2.2.2.1 23 (by decide) (by decide)]⟩
    by_cases c : k = 20
    · rw [c, v1, pu_ne _ _ _ (by omega)]
    · rw [m1.2.2.2.1 k (by rw [List.mem_singleton]; exact c) (by omega)]
  have h36a : fI (S1.2 m) 36 = nI n := by rw [m1.2.2.2.2 36 (by decide)]; exact h36
  rw [← h1, ← h2] at r1
  refine rc_end f1 h36a r1 (fun z => z) (fun z => Or.inl z) (fun z => ⟨by rw [v1, pu_at]; exact h3 z, by rw [m1.2.2.2.1 24 (by decide) (by decide)]; exact h24, fun y => by omega, fun y => by omega⟩)
theorem r_cond (hs : Sh S m sp10) (h : RP S m tx p true) (ht : txOk tx) (hp : p ≤ tx.length) (h36 : fI (S.2 m) 36 = nI n) (hn : n < 5) : ∃ S', F_X10_readsCondition S m = some S' ∧ rcE S S' m n tx (rdC tx p) := by
  unfold F_X10_readsCondition rdC
  have hq := rdQ_le (tx := tx) hp
  obtain ⟨S1, e1, m1, r1⟩ := r_skips hs h ht hp 33 (by decide)
  have r1' : RP S1 m tx (rdQ tx p) true := by
    unfold rdQ
    by_cases c : nxt tx p = 33
    · rw [if_pos ⟨rfl, c⟩] at r1; rw [if_pos c]; exact r1
    · rw [if_neg (fun z => c z.2)] at r1; rw [if_neg c]; exact r1
  have etu : (if true = true ∧ nxt tx p = 33 then (1 : Int32) else 0) = if decide (nxt tx p = 33) = true then 1 else 0 := by
    by_cases z : nxt tx p = 33
    · rw [if_pos ⟨rfl, z⟩, decide_eq_true z]; rfl
    · rw [if_neg (fun y => z y.2), decide_eq_false z]; rfl
  rw [etu] at e1
  generalize decide (nxt tx p = 33) = tu at *
  generalize rdQ tx p = q at *
  have f1 : Rf S S1 m n := Rf_M m1 (by decide)
  have h36a : fI (S1.2 m) 36 = nI n := by rw [m1.2.2.2.2 36 (by decide)]; exact h36
  rw [s10_oF hs, s10_g35 hs, Option.bind_some, s10_g36 hs, Option.bind_some, h36, e1, Option.bind_some]
  dsimp only
  rw [s10_w35 m1.1 hn, Option.bind_some]
  obtain ⟨f2, m2, v2, o2⟩ := r_wr (k := 24) (n := n) (v := if tu = true then 1 else 0) m1.1 (by omega) (s10_v35 m1.1 n (bo_nar tu))
  have r2 := RP_fr r1' m2 (by decide) (by decide)
  have h36b : fI ((wI S1 (m + 24) n (if tu = true then 1 else 0)).2 m) 36 = nI n := by rw [wI_ne _ _ _ (by omega)]; exact h36a
  generalize wI S1 (m + 24) n (if tu = true then 1 else 0) = S2 at *
  rw [s10_g32 m2.1, Option.bind_some, s10_g36 m2.1, Option.bind_some, h36b, s10_w32 m2.1 hn, Option.bind_some]
  obtain ⟨f3, m3, v3, o3⟩ := r_wr (k := 21) (n := n) (v := 0) m2.1 (by omega) (s10_v32 m2.1 n _)
  have r3 := RP_fr r2 m3 (by decide) (by decide)
  have h36c : fI ((wI S2 (m + 21) n 0).2 m) 36 = nI n := by rw [wI_ne _ _ _ (by omega)]; exact h36b
  generalize wI S2 (m + 21) n 0 = S3 at *
  rw [s10_g33 m3.1, Option.bind_some, s10_g36 m3.1, Option.bind_some, h36c, s10_w33 m3.1 hn, Option.bind_some]
  obtain ⟨f4, m4, v4, o4⟩ := r_wr (k := 22) (n := n) (v := 0) m3.1 (by omega) (s10_v33 m3.1 n _)
  have r4 := RP_fr r3 m4 (by decide) (by decide)
  have h36d : fI ((wI S3 (m + 22) n 0).2 m) 36 = nI n := by rw [wI_ne _ _ _ (by omega)]; exact h36c
  have t4 : cI ((wI S3 (m + 22) n 0).2 (m + 24)) n = if tu = true then 1 else 0 := by rw [o4 24 (by decide), o3 24 (by decide)]; exact v2
  generalize wI S3 (m + 22) n 0 = S4 at *
  have ff : Rf S S4 m n := Rf_trans f1 (Rf_trans f2 (Rf_trans f3 f4))
  have lift : ∀ {S5 : pS} {o : Option pS} {r : Bool × Nat × Cnd}, Rf S S5 m n → (∃ S', o = some S' ∧ rcE S5 S' m n tx r) → ∃ S', o = some S' ∧ rcE S S' m n tx r := by
    rintro S5 o r f5 ⟨S', a, b, c⟩
    exact ⟨S', a, Rf_trans f5 b, c⟩
  -- one sign is looked for
  have sk : ∀ (S5 : pS) (x : Int32), 32 ≤ x → Rf S S5 m n → RP S5 m tx q true → fI (S5.2 m) 36 = nI n → cI (S5.2 (m + 24)) n = (if tu = true then 1 else 0) → ∃ S6, F_X10_skips S5 m x = some (if nxt tx q = x then 1 else 0, S6) ∧ Rf S S6 m n ∧ RP S6 m tx (if nxt tx q = x then q + 1 else q) true ∧ fI (S6.2 m) 36 = nI n ∧ cI (S6.2 (m + 24)) n = (if tu = true then 1 else 0) := by
    intro S5 x hx f5 r5 h5 t5
    obtain ⟨S6, e6, m6, r6⟩ := r_skips f5.1.1 r5 ht hq x hx
    refine ⟨S6, ?_, Rf_trans f5 (Rf_M m6 (by decide)), ?_, by rw [m6.2.2.2.2 36 (by decide)]; exact h5, by rw [m6.2.2.2.1 24 (by simp) (by decide)]; exact t5⟩
    · rw [e6]
      by_cases c : nxt tx q = x
      · rw [if_pos ⟨rfl, c⟩, if_pos c]
      · rw [if_neg (fun z => c z.2), if_neg c]
    · by_cases c : nxt tx q = x
      · rw [if_pos ⟨rfl, c⟩] at r6; rw [if_pos c]; exact r6
      · rw [if_neg (fun z => c z.2)] at r6; rw [if_neg c]; exact r6
  obtain ⟨S5, e5, f5, r5, h5, t5⟩ := sk S4 62 (by decide) ff r4 h36d t4
  rw [e5, Option.bind_some]
  dsimp only
  unfold rdK
  by_cases c4 : nxt tx q = 62
  · rw [if_pos c4] at r5
    rw [itp1 c4, if_neg (show ¬ nxt tx q = 100 by rw [c4]; decide), if_neg (show ¬ nxt tx q = 108 by rw [c4]; decide), if_neg (show ¬ nxt tx q = 109 by rw [c4]; decide), if_pos c4]
    exact lift f5 (r_cval (kd := 4) (tu := tu) f5.1.1 r5 ht (nxt_in c4 (by decide)) h5 hn t5 (Or.inl rfl))
  rw [if_neg c4] at r5
  rw [itp0 c4, if_neg c4]
  obtain ⟨S6, e6, f6, r6, h6, t6⟩ := sk S5 60 (by decide) f5 r5 h5 t5
  rw [e6, Option.bind_some]
  dsimp only
  by_cases c5 : nxt tx q = 60
  · rw [if_pos c5] at r6
    rw [itp1 c5, if_neg (show ¬ nxt tx q = 100 by rw [c5]; decide), if_neg (show ¬ nxt tx q = 108 by rw [c5]; decide), if_neg (show ¬ nxt tx q = 109 by rw [c5]; decide), if_pos c5]
    exact lift f6 (r_cval (kd := 5) (tu := tu) f6.1.1 r6 ht (nxt_in c5 (by decide)) h6 hn t6 (Or.inr rfl))
  rw [if_neg c5] at r6
  rw [itp0 c5, if_neg c5]
  obtain ⟨S7, e7, f7, r7, h7, t7⟩ := sk S6 126 (by decide) f6 r6 h6 t6
  rw [e7, Option.bind_some]
  dsimp only
  by_cases c6 : nxt tx q = 126
  · rw [if_pos c6] at r7
    rw [itp1 c6, if_neg (show ¬ nxt tx q = 100 by rw [c6]; decide), if_neg (show ¬ nxt tx q = 108 by rw [c6]; decide), if_neg (show ¬ nxt tx q = 109 by rw [c6]; decide), if_pos c6]
    exact lift f7 (r_clet (tu := tu) f7.1.1 r7 ht (nxt_in c6 (by decide)) h7 hn t7)
  rw [if_neg c6] at r7
  rw [itp0 c6, if_neg c6]
  refine lift f7 ?_
  by_cases c1 : nxt tx q = 100
  · rw [if_pos c1]
    by_cases c2 : nxt tx (q + 1) = 111
    · rw [if_pos c2]
      have w := wR_one c1 c2
      refine r_cwrd f7.1.1 r7 ht hq h7 hn t7 (by rw [w]; show q + 1 + _ = q + (_ + 1); omega) ?_ (fun z => ?_) (show 0 ≤ 3 by decide)
      · rw [w]
        by_cases z : stN tx wOne (q + 1) = 3
        · show decide _ = decide (¬ (if stN tx wOne (q + 1) = 3 then (0 : Int32) else -1) = -1)
          rw [if_pos z, decide_eq_true z]; rfl
        · show decide _ = decide (¬ (if stN tx wOne (q + 1) = 3 then (0 : Int32) else -1) = -1)
          rw [if_neg z, decide_eq_false z]; rfl
      · rw [w]
        show (if stN tx wOne (q + 1) = 3 then (0 : Int32) else -1) = nI 0
        rw [if_pos (of_decide_eq_true z)]; rfl
    · rw [if_neg c2]
      have w := wR_ated c1 c2
      refine r_cwrd f7.1.1 r7 ht hq h7 hn t7 (by rw [w]; show q + 1 + _ = q + (_ + 1); omega) ?_ (fun z => ?_) (show 1 ≤ 3 by decide)
      · rw [w]
        by_cases z : stN tx wAted (q + 1) = 4
        · show decide _ = decide (¬ (if stN tx wAted (q + 1) = 4 then (1 : Int32) else -1) = -1)
          rw [if_pos z, decide_eq_true z]; rfl
        · show decide _ = decide (¬ (if stN tx wAted (q + 1) = 4 then (1 : Int32) else -1) = -1)
          rw [if_neg z, decide_eq_false z]; rfl
      · rw [w]
        show (if stN tx wAted (q + 1) = 4 then (1 : Int32) else -1) = nI 1
        rw [if_pos (of_decide_eq_true z)]; rfl
  rw [if_neg c1]
  by_cases c2 : nxt tx q = 108
  · rw [if_pos c2]
    have w := wR_eaf c2
    refine r_cwrd f7.1.1 r7 ht hq h7 hn t7 (by rw [w]; show q + 1 + _ = q + (_ + 1); omega) ?_ (fun z => ?_) (show 2 ≤ 3 by decide)
    · rw [w]
      by_cases z : stN tx wEaf (q + 1) = 3
      · show decide _ = decide (¬ (if stN tx wEaf (q + 1) = 3 then (2 : Int32) else -1) = -1)
        rw [if_pos z, decide_eq_true z]; rfl
      · show decide _ = decide (¬ (if stN tx wEaf (q + 1) = 3 then (2 : Int32) else -1) = -1)
        rw [if_neg z, decide_eq_false z]; rfl
    · rw [w]
      show (if stN tx wEaf (q + 1) = 3 then (2 : Int32) else -1) = nI 2
      rw [if_pos (of_decide_eq_true z)]; rfl
  rw [if_neg c2]
  by_cases c3 : nxt tx q = 109
  · rw [if_pos c3]
    have w := wR_any c3
    refine r_cwrd f7.1.1 r7 ht hq h7 hn t7 (by rw [w]; show q + 1 + _ = q + (_ + 1); omega) ?_ (fun z => ?_) (show 3 ≤ 3 by decide)
    · rw [w]
      by_cases z : stN tx wAny (q + 1) = 3
      · show decide _ = decide (¬ (if stN tx wAny (q + 1) = 3 then (3 : Int32) else -1) = -1)
        rw [if_pos z, decide_eq_true z]; rfl
      · show decide _ = decide (¬ (if stN tx wAny (q + 1) = 3 then (3 : Int32) else -1) = -1)
        rw [if_neg z, decide_eq_false z]; rfl
    · rw [w]
      show (if stN tx wAny (q + 1) = 3 then (3 : Int32) else -1) = nI 3
      rw [if_pos (of_decide_eq_true z)]; rfl
  rw [if_neg c3]
  have w := wR_no c1 c2 c3
  refine r_cwrd f7.1.1 r7 ht hq h7 hn t7 (by rw [w]; rfl) (by rw [w]; rfl) (fun z => by cases z) (show 0 ≤ 3 by decide)
end RC2
