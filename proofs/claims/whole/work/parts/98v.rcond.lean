/-! one condition is read: the reference -/
section RCD
variable {S : pS} {tx : List Int32} {p q m n : Nat}
def wst1 (tx : List Int32) (q : Nat) (s : Nat × Int32) (W : List Int32) (w : Int32) : Nat × Int32 := (max s.1 (stN tx W q), if stN tx W q = W.length then w else s.2)
def wRes (tx : List Int32) (q : Nat) : Nat × Int32 := wst1 tx q (wst1 tx q (wst1 tx q (wst1 tx q (0, -1) (100 :: wOne) 0) (100 :: wAted) 1) (108 :: wEaf) 2) (109 :: wAny) 3
theorem stN_c (c : Int32) (l : List Int32) (q : Nat) : stN tx (c :: l) q = if nxt tx q = c then stN tx l (q + 1) + 1 else 0 := rfl
theorem stN_nc {c : Int32} {l : List Int32} {q : Nat} (h : nxt tx q ≠ c) : stN tx (c :: l) q = 0 := if_neg h
theorem stN_yc {c : Int32} {l : List Int32} {q : Nat} (h : nxt tx q = c) : stN tx (c :: l) q = stN tx l (q + 1) + 1 := if_pos h
theorem wl4 : (100 :: wOne).length = 4 ∧ (100 :: wAted).length = 5 ∧ (108 :: wEaf).length = 4 ∧ (109 :: wAny).length = 4 := ⟨rfl, rfl, rfl, rfl⟩
theorem wR_one (h : nxt tx q = 100) (h2 : nxt tx (q + 1) = 111) : wRes tx q = (stN tx wOne (q + 1) + 1, if stN tx wOne (q + 1) = 3 then 0 else -1) := by
  obtain ⟨l1, l2, l3, l4⟩ := wl4
  have a : stN tx (100 :: wOne) q = stN tx wOne (q + 1) + 1 := stN_yc h
  have b : stN tx (100 :: wAted) q = 1 := by
    rw [stN_yc h]
    show stN tx (97 :: [116, 101, 100]) (q + 1) + 1 = 1
    rw [stN_nc (by rw [h2]; decide)]
  have c : stN tx (108 :: wEaf) q = 0 := stN_nc (by rw [h]; decide)
  have d : stN tx (109 :: wAny) q = 0 := stN_nc (by rw [h]; decide)
  unfold wRes wst1
  rw [a, b, c, d, l1, l2, l3, l4, if_neg (show ¬ (0 : Nat) = 4 by decide), if_neg (show ¬ (0 : Nat) = 4 by decide), if_neg (show ¬ (1 : Nat) = 5 by decide)]
  dsimp only
  have e1 : max (max (max (max 0 (stN tx wOne (q + 1) + 1)) 1) 0) 0 = stN tx wOne (q + 1) + 1 := by omega
  rw [e1]
  by_cases z : stN tx wOne (q + 1) = 3
  · rw [if_pos (show stN tx wOne (q + 1) + 1 = 4 by omega), if_pos z]
  · rw [if_neg (show ¬ stN tx wOne (q + 1) + 1 = 4 by omega), if_neg z]
theorem wR_ated (h : nxt tx q = 100) (h2 : nxt tx (q + 1) ≠ 111) : wRes tx q = (stN tx wAted (q + 1) + 1, if stN tx wAted (q + 1) = 4 then 1 else -1) := by
  obtain ⟨l1, l2, l3, l4⟩ := wl4
  have a : stN tx (100 :: wOne) q = 1 := by
    rw [stN_yc h]
    show stN tx (111 :: [110, 101]) (q + 1) + 1 = 1
    rw [stN_nc h2]
  have b : stN tx (100 :: wAted) q = stN tx wAted (q + 1) + 1 := stN_yc h
  have c : stN tx (108 :: wEaf) q = 0 := stN_nc (by rw [h]; decide)
  have d : stN tx (109 :: wAny) q = 0 := stN_nc (by rw [h]; decide)
  unfold wRes wst1
  rw [a, b, c, d, l1, l2, l3, l4, if_neg (show ¬ (0 : Nat) = 4 by decide), if_neg (show ¬ (0 : Nat) = 4 by decide), if_neg (show ¬ (1 : Nat) = 4 by decide)]
  dsimp only
  have e1 : max (max (max (max 0 1) (stN tx wAted (q + 1) + 1)) 0) 0 = stN tx wAted (q + 1) + 1 := by omega
  rw [e1]
  by_cases z : stN tx wAted (q + 1) = 4
  · rw [if_pos (show stN tx wAted (q + 1) + 1 = 5 by omega), if_pos z]
  · rw [if_neg (show ¬ stN tx wAted (q + 1) + 1 = 5 by omega), if_neg z]
theorem wR_eaf (h : nxt tx q = 108) : wRes tx q = (stN tx wEaf (q + 1) + 1, if stN tx wEaf (q + 1) = 3 then 2 else -1) := by
  obtain ⟨l1, l2, l3, l4⟩ := wl4
  have a : stN tx (100 :: wOne) q = 0 := stN_nc (by rw [h]; decide)
  have b : stN tx (100 :: wAted) q = 0 := stN_nc (by rw [h]; decide)
  have c : stN tx (108 :: wEaf) q = stN tx wEaf (q + 1) + 1 := stN_yc h
  have d : stN tx (109 :: wAny) q = 0 := stN_nc (by rw [h]; decide)
  unfold wRes wst1
  rw [a, b, c, d, l1, l2, l3, l4, if_neg (show ¬ (0 : Nat) = 4 by decide), if_neg (show ¬ (0 : Nat) = 5 by decide), if_neg (show ¬ (0 : Nat) = 4 by decide)]
  dsimp only
  have e1 : max (max (max (max 0 0) 0) (stN tx wEaf (q + 1) + 1)) 0 = stN tx wEaf (q + 1) + 1 := by omega
  rw [e1]
  by_cases z : stN tx wEaf (q + 1) = 3
  · rw [if_pos (show stN tx wEaf (q + 1) + 1 = 4 by omega), if_pos z]
  · rw [if_neg (show ¬ stN tx wEaf (q + 1) + 1 = 4 by omega), if_neg z]
theorem wR_any (h : nxt tx q = 109) : wRes tx q = (stN tx wAny (q + 1) + 1, if stN tx wAny (q + 1) = 3 then 3 else -1) := by
  obtain ⟨l1, l2, l3, l4⟩ := wl4
  have a : stN tx (100 :: wOne) q = 0 := stN_nc (by rw [h]; decide)
  have b : stN tx (100 :: wAted) q = 0 := stN_nc (by rw [h]; decide)
  have c : stN tx (108 :: wEaf) q = 0 := stN_nc (by rw [h]; decide)
  have d : stN tx (109 :: wAny) q = stN tx wAny (q + 1) + 1 := stN_yc h
  unfold wRes wst1
  rw [a, b, c, d, l1, l2, l3, l4, if_neg (show ¬ (0 : Nat) = 4 by decide), if_neg (show ¬ (0 : Nat) = 5 by decide), if_neg (show ¬ (0 : Nat) = 4 by decide)]
  dsimp only
  have e1 : max (max (max (max 0 0) 0) 0) (stN tx wAny (q + 1) + 1) = stN tx wAny (q + 1) + 1 := by omega
  rw [e1]
  by_cases z : stN tx wAny (q + 1) = 3
  · rw [if_pos (show stN tx wAny (q + 1) + 1 = 4 by omega), if_pos z]
  · rw [if_neg (show ¬ stN tx wAny (q + 1) + 1 = 4 by omega), if_neg z]
theorem wR_no (h1 : nxt tx q ≠ 100) (h2 : nxt tx q ≠ 108) (h3 : nxt tx q ≠ 109) : wRes tx q = (0, -1) := by
  obtain ⟨l1, l2, l3, l4⟩ := wl4
  unfold wRes wst1
  rw [stN_nc h1, stN_nc h1, stN_nc h2, stN_nc h3, l1, l2, l3, l4]
  rfl
theorem r_word (hs : Sh S m sp10) (h : RP S m tx q true) (ht : txOk tx) (hq : q ≤ tx.length) (h36 : fI (S.2 m) 36 = nI n) (hn : n < 5) : ∃ S', F_X10_readsWord S m = some S' ∧ MR S S' m [20] [21, 23] ∧ RP S' m tx (q + (wRes tx q).1) (decide (¬ (wRes tx q).2 = -1)) ∧ cI (S'.2 (m + 20)) = pu (cI (S.2 (m + 20))) n (wRes tx q).2 := by
  unfold F_X10_readsWord
  have step : ∀ (w a : Nat) (W : List Int32) (s : Nat × Int32), w < 4 → F_X10_wordOf S (nI w) = some a → (∀ x, x ∈ W → x ≠ 0) → W.length ≤ 10 → oLen a = some (nI W.length) → (∀ i, i < W.length → oChr a (nI i) = W[i]?) → s.1 ≤ 10 → F_X10_readsWord_6 m S (nI s.1, s.2, nI w) = some (.inl (nI (wst1 tx q s W (nI w)).1, (wst1 tx q s W (nI w)).2, nI (w + 1))) ∧ (wst1 tx q s W (nI w)).1 ≤ 10 := by
    intro w a W s hw ew h0 hl el ec hs10
    have hst := (stN_sp (tx := tx) W q).1
    have e33 : ∀ t : Int32, F_X10_readsWord_33 m S s.2 (nI w) (nI (stN tx W q)) t = some (.inl (t, if stN tx W q = W.length then nI w else s.2, nI (w + 1))) := by
      intro t
      unfold F_X10_readsWord_33
      rw [ew, Option.bind_some, el, Option.bind_some, nI_1]
      by_cases z : stN tx W q = W.length
      · rw [if_neg (show ¬ ¬ nI (stN tx W q) = nI W.length from fun y => y (by rw [z])), if_pos z]
      · rw [if_pos (show ¬ nI (stN tx W q) = nI W.length from fun y => z ((nI_eq (by omega) (by omega)).mp y)), if_neg z]
    refine ⟨?_, by show max s.1 (stN tx W q) ≤ 10; omega⟩
    unfold F_X10_readsWord_6 wst1
    dsimp only
    rw [if_neg (ge4 hw), ew, Option.bind_some, r_stands hs h ht hq h0 hl el (wd_ok ec), Option.bind_some]
    by_cases z : stN tx W q ≤ s.1
    · rw [if_pos (nI_le z (by omega)), e33, show max s.1 (stN tx W q) = s.1 by omega]
    · rw [if_neg (nI_ge (by omega) (by omega)), e33, show max s.1 (stN tx W q) = stN tx W q by omega]
  obtain ⟨n1, n2, n3, n4⟩ := wd_n0
  have c1 : ∀ x, x ∈ (100 :: wOne) → x ≠ (0 : Int32) := by decide
  have c2 : ∀ x, x ∈ (100 :: wAted) → x ≠ (0 : Int32) := by decide
  have c3 : ∀ x, x ∈ (108 :: wEaf) → x ≠ (0 : Int32) := by decide
  have c4 : ∀ x, x ∈ (109 :: wAny) → x ≠ (0 : Int32) := by decide
  obtain ⟨s1, b1⟩ := step 0 5 (100 :: wOne) (0, -1) (by decide) rfl c1 (by decide) rfl wd_5 (by decide)
  obtain ⟨s2, b2⟩ := step 1 6 (100 :: wAted) _ (by decide) rfl c2 (by decide) rfl wd_6 b1
  obtain ⟨s3, b3⟩ := step 2 7 (108 :: wEaf) _ (by decide) rfl c3 (by decide) rfl wd_7 b2
  obtain ⟨s4, b4⟩ := step 3 8 (109 :: wAny) _ (by decide) rfl c4 (by decide) rfl wd_8 b3
  have ew : wst1 tx q (wst1 tx q (wst1 tx q (wst1 tx q (0, -1) (100 :: wOne) (nI 0)) (100 :: wAted) (nI 1)) (108 :: wEaf) (nI 2)) (109 :: wAny) (nI 3) = wRes tx q := rfl
  rw [ew] at s4 b4
  have ex : F_X10_readsWord_6 m S (nI (wRes tx q).1, (wRes tx q).2, nI (3 + 1)) = some (.inr (nI (wRes tx q).1, (wRes tx q).2)) := by
    unfold F_X10_readsWord_6
    dsimp only
    rw [if_pos (by decide)]
  have ei : iter (F_X10_readsWord_6 m S) fu ((0 : Int32), (-1 : Int32), (0 : Int32)) = some (nI (wRes tx q).1, (wRes tx q).2) := Run_end (Run_t (Run_1 s1) (Run_t (Run_1 s2) (Run_t (Run_1 s3) (Run_1 s4)))) (by decide) ex
  obtain ⟨S1, e1, m1, r1⟩ := RP_p hs h (q + (wRes tx q).1)
  rw [s10_oF hs, ei, Option.bind_some, s10_g21 hs, Option.bind_some, h.1]
  dsimp only
  rw [nI_add, e1, Option.bind_some]
  have fin : ∀ b : Bool, b = decide (¬ (wRes tx q).2 = -1) → ∃ S', F_X10_readsWord_79 S1 m (wRes tx q).2 m (if b = true then 1 else 0) = some S' ∧ MR S S' m [20] [21, 23] ∧ RP S' m tx (q + (wRes tx q).1) (decide (¬ (wRes tx q).2 = -1)) ∧ cI (S'.2 (m + 20)) = pu (cI (S.2 (m + 20))) n (wRes tx q).2 := by
    rintro b rfl
    unfold F_X10_readsWord_79
    obtain ⟨S2, e2, m2, r2⟩ := RP_g m1.1 r1 (decide (¬ (wRes tx q).2 = -1))
    have h36' : fI (S2.2 m) 36 = nI n := by rw [m2.2.2.2.2 36 (by decide), m1.2.2.2.2 36 (by decide)]; exact h36
    rw [e2, Option.bind_some, s10_g31 m2.1, Option.bind_some, s10_g36 m2.1, Option.bind_some, h36', s10_w31 m2.1 hn, Option.bind_some]
    have m12 : MR S S2 m [20] [21, 23] := MR_trans (MR_sub m1 (by simp) (by decide)) (MR_sub m2 (by simp) (by decide))
    have m3 := MR_I m12 (j := 20) (by decide) (by decide) (by decide) n (wRes tx q).2
    have m23 := MR_I (MR_refl m2.1 [20] []) (j := 20) (by decide) (by decide) (by decide) n (wRes tx q).2
    refine ⟨_, rfl, m3, RP_fr r2 m23 (by decide) (by decide), ?_⟩
    rw [s10_v31 m2.1, m2.2.2.2.1 20 (by simp) (by decide), m1.2.2.2.1 20 (by simp) (by decide)]
  by_cases z : (wRes tx q).2 = -1
  · rw [if_pos z]
    exact fin false (by rw [decide_eq_false (fun w => w z)])
  · rw [if_neg z]
    exact fin true (by rw [decide_eq_true z])
end RCD
