/-! entries are read: the reference -/
section RE2
variable {S : pS} {tx : List Int32} {p m n : Nat}
def RwsG (S : pS) (m : Nat) (L : List Ent) : Prop := ∀ (j : Nat) e, L[j]? = some e → rowG S m j e
theorem srR_ne (s : Option Nat) (h : ∀ v, s = some v → v < 100) : srR s = (-1 : Int32) ↔ s = none := by
  cases s with
  | none => exact ⟨fun _ => rfl, fun _ => rfl⟩
  | some v =>
    have hv := h v rfl
    exact ⟨fun z => absurd z (nI_nm1 (by omega)), fun z => by cases z⟩
theorem r_levelMost {L : List Ent} (hs : Sh S m sp10) (hr : RwsG S m L) (hL : ELo L) (hl : L.length ≤ 40) (h54 : fI (S.2 m) 54 = nI L.length) : F_X10_levelMost S m = some (nI (mostL L)) := by
  unfold F_X10_levelMost
  rw [s10_oF hs, s10_g54 hs, Option.bind_some, h54]
  rcases List.eq_nil_or_concat L with z | ⟨L', e, z⟩
  · subst z
    rw [if_neg (show ¬ ¬ nI ([] : List Ent).length = 0 from fun z => z rfl)]
    rfl
  · rw [List.concat_eq_append] at z
    subst z
    have hlen : (L' ++ [e]).length = L'.length + 1 := by rw [List.length_append]; rfl
    have he : (L' ++ [e])[L'.length]? = some e := by rw [List.getElem?_append_right (Nat.le_refl _), Nat.sub_self]; rfl
    have h1 := hr _ e he
    have h2 := hL _ e he
    rw [hlen] at hl ⊢
    rw [if_pos (nI_n0 (by omega) (by omega)), s10_g52 hs, Option.bind_some, Option.bind_some, nI_pred, s10_r52 hs (by omega), Option.bind_some, h1.2.1, mostL_snoc]
    have hne := srR_ne e.2.1 (fun v hv => by have := h2.2.2.1 v hv; omega)
    by_cases c : e.2.1 = none
    · rw [if_pos (hne.mpr c), if_pos c, s10_g46 hs, Option.bind_some, Option.bind_some, nI_pred, s10_r46 hs (by omega), Option.bind_some, h1.1, nI_1]
    · rw [if_neg (fun z => c (hne.mp z)), if_neg c, s10_g46 hs, Option.bind_some, Option.bind_some, nI_pred, s10_r46 hs (by omega), Option.bind_some, h1.1]
theorem g_pts {most : Nat} (ht : txOk tx) : ∀ (j l p : Nat) (S : pS), l + j = most → most < 100 → p ≤ tx.length → Sh S m sp10 → RP S m tx p true → ∃ s' k S', k ≤ j + 1 ∧ Run (F_X10_readsEntry_7 m (nI most)) (nI l, S) s' k ∧ F_X10_readsEntry_7 m (nI most) s' = some (.inr (nI (l + ptC tx j p), S')) ∧ MR S S' m [] [21, 23] ∧ RP S' m tx (p + ptC tx j p) (decide (¬ nxt tx (p + ptC tx j p) = 46)) := by
  have hl80 := ht.1
  intro j
  induction j with
  | zero =>
    intro l p S hl hm hp hs hx
    have hl' : l = most := by omega
    subst hl'
    show ∃ s' k S', _ ∧ _ ∧ F_X10_readsEntry_7 m (nI l) s' = some (.inr (nI l, S')) ∧ _ ∧ RP S' m tx p (decide (¬ nxt tx p = 46))
    have e0 : F_X10_readsEntry_7 m (nI l) (nI l, S) = if ¬ here tx p = 46 then some (.inr (nI l, S)) else F_X10_readsEntry_34 m (nI l) S (nI l) m (0 : Int32) := by
      unfold F_X10_readsEntry_7
      dsimp only
      rw [s10_g23 hs, Option.bind_some, hx.2.2.1, ite1 rfl, r_here hs hx ht (by omega), Option.bind_some, if_pos (Int32.le_refl _)]
    by_cases c : nxt tx p = 46
    · rw [if_neg (show ¬ ¬ here tx p = 46 from fun w => w ((here_eq ht p (by decide)).mpr c))] at e0
      obtain ⟨S1, e1, m1, r1⟩ := RP_g hs hx false
      obtain ⟨S2, e2, m2, r2⟩ := RP_p m1.1 r1 p
      have e34 : F_X10_readsEntry_34 m (nI l) S (nI l) m (0 : Int32) = some (.inl (nI l, S2)) := by
        unfold F_X10_readsEntry_34 F_X10_readsEntry_50 F_X10_readsEntry_69
        rw [show oPZ S m 10 23 (0 : Int32) = some S1 from e1, Option.bind_some, s10_g23 m1.1, Option.bind_some, r1.2.2.1, ite0 rfl, s10_g21 m1.1, Option.bind_some, r1.1, Option.bind_some, if_pos (by decide), Int32.add_zero, Int32.add_zero, e2, Option.bind_some]
      rw [e34] at e0
      have ex : F_X10_readsEntry_7 m (nI l) (nI l, S2) = some (.inr (nI l, S2)) := by
        unfold F_X10_readsEntry_7
        dsimp only
        rw [s10_g23 m2.1, Option.bind_some, r2.2.2.1, ite0 rfl]
      rw [decide_eq_false (show ¬ ¬ nxt tx p = 46 from fun z => z c)]
      exact ⟨_, 1, S2, Nat.le_refl _, Run_1 e0, ex, MR_trans (MR_sub m1 (by simp) (by decide)) (MR_sub m2 (by simp) (by decide)), r2⟩
    · rw [if_pos (show ¬ here tx p = 46 from fun w => c ((here_eq ht p (by decide)).mp w))] at e0
      rw [decide_eq_true (show ¬ nxt tx p = 46 from c)]
      exact ⟨_, 0, S, Nat.zero_le _, Run_0, e0, MR_refl hs _ _, hx⟩
  | succ j ih =>
    intro l p S hl hm hp hs hx
    have eq : ptC tx (j + 1) p = if nxt tx p = 46 then ptC tx j (p + 1) + 1 else 0 := rfl
    rw [eq]
    have e0 : F_X10_readsEntry_7 m (nI most) (nI l, S) = if ¬ here tx p = 46 then some (.inr (nI l, S)) else F_X10_readsEntry_34 m (nI most) S (nI l) m (1 : Int32) := by
      unfold F_X10_readsEntry_7
      dsimp only
      rw [s10_g23 hs, Option.bind_some, hx.2.2.1, ite1 rfl, r_here hs hx ht (by omega), Option.bind_some, if_neg (nI_ge (show l < most by omega) (by omega))]
    by_cases c : nxt tx p = 46
    · rw [if_neg (show ¬ ¬ here tx p = 46 from fun w => w ((here_eq ht p (by decide)).mpr c))] at e0
      rw [if_pos c]
      obtain ⟨S1, e1, m1, r1⟩ := RP_g hs hx true
      obtain ⟨S2, e2, m2, r2⟩ := RP_p m1.1 r1 (p + 1)
      have e34 : F_X10_readsEntry_34 m (nI most) S (nI l) m (1 : Int32) = some (.inl (nI (l + 1), S2)) := by
        unfold F_X10_readsEntry_34 F_X10_readsEntry_50 F_X10_readsEntry_69
        rw [show oPZ S m 10 23 (1 : Int32) = some S1 from e1, Option.bind_some, s10_g23 m1.1, Option.bind_some, r1.2.2.1, ite1 rfl, s10_g21 m1.1, Option.bind_some, r1.1, Option.bind_some, if_neg (by decide), nI_1, nI_1, e2, Option.bind_some]
      rw [e34] at e0
      have m12 : MR S S2 m [] [21, 23] := MR_trans (MR_sub m1 (by simp) (by decide)) (MR_sub m2 (by simp) (by decide))
      obtain ⟨s', k, S', k1, run, ex, m3, r3⟩ := ih (l + 1) (p + 1) S2 (by omega) hm (nxt_in c (by decide)) m2.1 r2
      rw [show l + (ptC tx j (p + 1) + 1) = l + 1 + ptC tx j (p + 1) by omega, show p + (ptC tx j (p + 1) + 1) = p + 1 + ptC tx j (p + 1) by omega]
      exact ⟨s', 1 + k, S', by omega, Run_t (Run_1 e0) run, ex, MR_trans m12 m3, r3⟩
    · rw [if_pos (show ¬ here tx p = 46 from fun w => c ((here_eq ht p (by decide)).mp w))] at e0
      rw [if_neg c, Nat.add_zero, show p + 0 = p from rfl, decide_eq_true (show ¬ nxt tx p = 46 from c)]
      exact ⟨_, 0, S, Nat.zero_le _, Run_0, e0, MR_refl hs _ _, hx⟩
/-- what the entry's reading ends in -/
def gEn (S S' : pS) (m n : Nat) (tx : List Int32) (r : Bool × Nat × Ent) : Prop := Rg S S' m n ∧ ∃ g : Bool, RP S' m tx r.2.1 g ∧ (r.1 = false → g = false) ∧ (r.1 = true → g = true ∨ (g = false ∧ isLt (nxt tx r.2.1) = true)) ∧ (g = true → rowG S' m n r.2.2 ∧ fI (S'.2 m) 54 = nI (n + 1))
theorem g_end {S1 : pS} {r : Bool × Nat × Ent} {g : Bool} (f : Rg S S1 m n) (h54 : fI (S1.2 m) 54 = nI n) (hr : RP S1 m tx r.2.1 g) (h1 : r.1 = false → g = false) (h2 : r.1 = true → g = true ∨ (g = false ∧ isLt (nxt tx r.2.1) = true)) (h3 : g = true → rowG S1 m n r.2.2) : ∃ S', F_X10_readsEntry_245 S1 m = some S' ∧ gEn S S' m n tx r := by
  unfold F_X10_readsEntry_245
  have hs := f.1.1
  rw [s10_g54 hs, Option.bind_some, h54, nI_1, s10_p54 hs, Option.bind_some]
  have k2 := s10_k54 hs hs (nI (n + 1))
  have m2 := r_setF hs (nI (n + 1)) k2
  refine ⟨_, rfl, Rg_trans f (Rg_M m2 (by decide)), g, RP_fr hr m2 (by simp) (by decide), h1, h2, fun z => ⟨?_, s10_v54 hs _⟩⟩
  have a : ∀ j, j ≠ 0 → (wF S1 m 54 (.int (nI (n + 1)))).2 (m + j) = S1.2 (m + j) := fun j hj => m2.2.2.2.1 j (by simp) hj
  unfold rowG
  rw [a 33 (by decide), a 34 (by decide), a 35 (by decide), a 36 (by decide), a 37 (by decide), a 38 (by decide), a 39 (by decide), a 6 (by decide)]
  exact h3 z
theorem g_215 {S0 : pS} {lv : Nat} (f0 : Rg S0 S m n) (h : RP S m tx p true) (ht : txOk tx) (hp : p ≤ tx.length) (h54 : fI (S.2 m) 54 = nI n) (hn : n ≤ 40) (h33 : cI (S.2 (m + 33)) n = nI lv) (h36 : cI (S.2 (m + 36)) n = -1) (h37 : cI (S.2 (m + 37)) n = 0) (h38 : cI (S.2 (m + 38)) n = 0) (h39 : cI (S.2 (m + 39)) n = -1) : ∃ S', F_X10_readsEntry_215 S m = some S' ∧ gEn S0 S' m n tx (rdN tx lv p) := by
  have hl80 := ht.1
  have hs := f0.1.1
  have h10 := (ltC_sp (tx := tx) 10 p).1
  have hle := ltC_le (tx := tx) (n := 10) hp
  unfold F_X10_readsEntry_215
  obtain ⟨S1, e1, m1, r1⟩ := r_letters hs h ht hp
  have el : letR tx p true = (p + ltC tx 10 p, decide (0 < ltC tx 10 p) && !(decide (ltC tx 10 p = 10) && isLt (nxt tx (p + 10)))) := by
    unfold letR
    rw [if_pos rfl]
  rw [el] at r1
  dsimp only at r1
  have h54a : fI (S1.2 m) 54 = nI n := by rw [m1.2.2.2.2 54 (by decide)]; exact h54
  rw [s10_g47 hs, Option.bind_some, s10_g54 hs, Option.bind_some, h54, e1, Option.bind_some]
  dsimp only
  rw [s10_w47 m1.1 (by omega), Option.bind_some]
  obtain ⟨f2, m2, v2, o2⟩ := g_wr (k := 34) (n := n) (v := nI p) m1.1 (by omega) (s10_v47 m1.1 n _)
  have r2 := RP_wr r1 (by omega) m2
  have h54b : fI ((wI S1 (m + 34) n (nI p)).2 m) 54 = nI n := by rw [wI_ne _ _ _ (show m ≠ m + 34 by omega)]; exact h54a
  generalize wI S1 (m + 34) n (nI p) = S2 at *
  rw [s10_g48 m2.1, Option.bind_some, s10_g54 m2.1, Option.bind_some, h54b, s10_g21 m2.1, Option.bind_some, r2.1, s10_w48 m2.1 (by omega), Option.bind_some]
  obtain ⟨f3, m3, v3, o3⟩ := g_wr (k := 35) (n := n) (v := nI (p + ltC tx 10 p)) m2.1 (by omega) (s10_v48 m2.1 n _)
  have r3 := RP_wr r2 (by omega) m3
  have h54c : fI ((wI S2 (m + 35) n (nI (p + ltC tx 10 p))).2 m) 54 = nI n := by rw [wI_ne _ _ _ (show m ≠ m + 35 by omega)]; exact h54b
  generalize wI S2 (m + 35) n (nI (p + ltC tx 10 p)) = S3 at *
  have f13 : Rg S0 S3 m n := Rg_trans f0 (Rg_trans (Rg_M m1 (by decide)) (Rg_trans f2 f3))
  have a3 : ∀ j, j ≠ 34 → j ≠ 35 → j ≠ 0 → S3.2 (m + j) = S.2 (m + j) := fun j h1 h2 h0 => by rw [o3 j h2, o2 j h1, m1.2.2.2.1 j (by simp) h0]
  unfold rdN
  cases hg : (decide (0 < ltC tx 10 p) && !(decide (ltC tx 10 p = 10) && isLt (nxt tx (p + 10))))
  · rw [hg] at r3
    obtain ⟨S4, e4, m4, r4⟩ := g_mkF m3.1 r3 ht hle
    have h54d : fI (S4.2 m) 54 = nI n := by rw [m4.2.2.2.2 54 (by decide)]; exact h54c
    rw [e4, Option.bind_some]
    by_cases z : 0 < ltC tx 10 p
    · rw [if_pos z]
      rw [decide_eq_true z, Bool.true_and, Bool.not_eq_false', Bool.and_eq_true, decide_eq_true_eq] at hg
      obtain ⟨g1, g2⟩ := hg
      have hx : isLt (nxt tx (p + ltC tx 10 p)) = true := by rw [g1]; exact g2
      have n64 : ¬ nxt tx (p + ltC tx 10 p) = 64 := fun y => by rw [y] at hx; exact absurd hx (by decide)
      have n61 : ¬ nxt tx (p + ltC tx 10 p) = 61 := fun y => by rw [y] at hx; exact absurd hx (by decide)
      have er : rdM1 tx lv (ltL tx p) (p + ltC tx 10 p) = (true, p + ltC tx 10 p, (lv, none, ltL tx p, -1, 0, false)) := by
        unfold rdM1 rdM2 rdM3
        rw [if_neg n64, if_neg n61, if_neg (fun y => by cases y.1)]
      rw [er]
      exact g_end (Rg_trans f13 (Rg_M m4 (by decide))) h54d r4 (fun y => rfl) (fun _ => Or.inr ⟨rfl, hx⟩) (fun y => by cases y)
    · rw [if_neg z]
      have hz : ltC tx 10 p = 0 := by omega
      rw [hz, Nat.add_zero] at r4
      exact g_end (Rg_trans f13 (Rg_M m4 (by decide))) h54d r4 (fun y => rfl) (fun y => by cases y) (fun y => by cases y)
  · rw [hg] at r3
    rw [Bool.and_eq_true, decide_eq_true_eq] at hg
    obtain ⟨S4, e4, k1, k2, k3, k4, k5⟩ := g_marks m3.1 r3 ht hle h54c hn lv (ltL tx p) (by rw [a3 36 (by decide) (by decide) (by decide)]; exact h36) (by rw [a3 37 (by decide) (by decide) (by decide)]; exact h37) (by rw [a3 38 (by decide) (by decide) (by decide)]; exact h38)
    rw [e4, Option.bind_some, if_pos hg.1]
    refine g_end (Rg_trans f13 k1) (by rw [k3]; exact h54c) k4 (fun y => y) (fun y => Or.inl y) (fun y => ?_)
    obtain ⟨dy, v, d, er, -⟩ := (rdM1_ok (lv := lv) (nm := ltL tx p) ht hle).2.2 y
    obtain ⟨b1, b2, b3⟩ := k5 y
    refine ⟨?_, ?_, fun _ => ⟨⟨p, ?_, ?_, ?_, fun k x hk => ?_⟩, b1, b2, b3⟩⟩
    · rw [k2 33 (by decide) (by decide) (by decide) (by decide), a3 33 (by decide) (by decide) (by decide), h33, er]
    · rw [k2 39 (by decide) (by decide) (by decide) (by decide), a3 39 (by decide) (by decide) (by decide), h39, er]; rfl
    · rw [k2 34 (by decide) (by decide) (by decide) (by decide), o3 34 (by decide)]; exact v2
    · rw [k2 35 (by decide) (by decide) (by decide) (by decide), v3, er]
      show _ = nI (p + (ltL tx p).length)
      rw [ltL_len hp]
    · rw [er]
      show p + (ltL tx p).length ≤ 80
      rw [ltL_len hp]; omega
    · rw [er] at hk
      obtain ⟨c1, c2, -⟩ := ltL_get hp hk
      rw [k4.2.2.2 _ _ (nxt_lt (show p + k < tx.length by omega)), c2]
theorem r_entry {L : List Ent} (hs : Sh S m sp10) (h : RP S m tx p true) (ht : txOk tx) (hp : p ≤ tx.length) (hr : RwsG S m L) (hL : ELo L) (hl : L.length ≤ 40) (h54 : fI (S.2 m) 54 = nI L.length) : ∃ S', F_X10_readsEntry S m = some S' ∧ gEn S S' m L.length tx (rdE tx L.length (mostL L) p) := by
  have hl80 := ht.1
  have hmost := mostL_le hL
  unfold F_X10_readsEntry rdE
  rw [s10_oF hs, r_levelMost hs hr hL hl h54, Option.bind_some]
  obtain ⟨h1, h2⟩ := ptC_le (tx := tx) (mostL L) p hp
  obtain ⟨s', k, S1, k1, run, ex, m1, r1⟩ := g_pts (m := m) (most := mostL L) ht (mostL L) 0 p S (Nat.zero_add _) (by omega) hp hs h
  have ei : iter (F_X10_readsEntry_7 m (nI (mostL L))) fu ((0 : Int32), S) = _ := Run_end run (by omega) ex
  rw [ei, Option.bind_some, Nat.zero_add]
  dsimp only
  have f1 : Rg S S1 m L.length := Rg_M m1 (by decide)
  have h54a : fI (S1.2 m) 54 = nI L.length := by rw [m1.2.2.2.2 54 (by decide)]; exact h54
  generalize ptC tx (mostL L) p = lv at *
  generalize p + lv = q at *
  generalize L.length = n at *
  unfold F_X10_readsEntry_76
  rw [s10_g23 m1.1, Option.bind_some, r1.2.2.1]
  by_cases c46 : nxt tx q = 46
  · rw [decide_eq_false (show ¬ ¬ nxt tx q = 46 from fun z => z c46)] at r1 ⊢
    rw [if_neg (show ¬ ¬ (if false = true then (1 : Int32) else 0) = 0 from fun z => z rfl)]
    have hlt : ltC tx 10 q = 0 := ltC_eq 0 10 q (by omega) (fun i hi => absurd hi (Nat.not_lt_zero _)) (Or.inr (by rw [Nat.add_zero, c46]; decide))
    have er : rdE2 tx n lv q = (false, q, e0E lv) := by
      unfold rdE2
      rw [if_neg (fun z => by rw [c46] at z; exact absurd z.2 (by decide)), if_neg (by omega)]
    rw [er]
    exact ⟨S1, rfl, f1, false, r1, fun _ => rfl, (fun z => by cases z), (fun z => by cases z)⟩
  · rw [decide_eq_true (show ¬ nxt tx q = 46 from c46)] at r1 ⊢
    rw [if_pos (show ¬ (if true = true then (1 : Int32) else 0) = 0 by decide), s10_g46 m1.1, Option.bind_some, s10_g54 m1.1, Option.bind_some, h54a, s10_w46 m1.1 (by omega), Option.bind_some]
    obtain ⟨f2, m2, v2, o2⟩ := g_wr (k := 33) (n := n) (v := nI lv) m1.1 (by omega) (s10_v46 m1.1 n _)
    have r2 := RP_wr r1 (by omega) m2
    have h54b : fI ((wI S1 (m + 33) n (nI lv)).2 m) 54 = nI n := by rw [wI_ne _ _ _ (show m ≠ m + 33 by omega)]; exact h54a
    generalize wI S1 (m + 33) n (nI lv) = S2 at *
    rw [s10_g49 m2.1, Option.bind_some, s10_g54 m2.1, Option.bind_some, h54b, s10_w49 m2.1 (by omega), Option.bind_some]
    obtain ⟨f3, m3, v3, o3⟩ := g_wr (k := 36) (n := n) (v := -1) m2.1 (by omega) (s10_v49 m2.1 n _)
    have r3 := RP_wr r2 (by omega) m3
    have h54c : fI ((wI S2 (m + 36) n (-1)).2 m) 54 = nI n := by rw [wI_ne _ _ _ (show m ≠ m + 36 by omega)]; exact h54b
    generalize wI S2 (m + 36) n (-1) = S3 at *
    rw [s10_g50 m3.1, Option.bind_some, s10_g54 m3.1, Option.bind_some, h54c, s10_w50 m3.1 (by omega), Option.bind_some]
    obtain ⟨f4, m4, v4, o4⟩ := g_wr (k := 37) (n := n) (v := 0) m3.1 (by omega) (s10_v50 m3.1 n _)
    have r4 := RP_wr r3 (by omega) m4
    have h54d : fI ((wI S3 (m + 37) n 0).2 m) 54 = nI n := by rw [wI_ne _ _ _ (show m ≠ m + 37 by omega)]; exact h54c
    generalize wI S3 (m + 37) n 0 = S4 at *
    rw [s10_g51 m4.1, Option.bind_some, s10_g54 m4.1, Option.bind_some, h54d, s10_w51 m4.1 (by omega), Option.bind_some]
    obtain ⟨f5, m5, v5, o5⟩ := g_wr (k := 38) (n := n) (v := 0) m4.1 (by omega) (s10_v51 m4.1 n _)
    have r5 := RP_wr r4 (by omega) m5
    have h54e : fI ((wI S4 (m + 38) n 0).2 m) 54 = nI n := by rw [wI_ne _ _ _ (show m ≠ m + 38 by omega)]; exact h54d
    generalize wI S4 (m + 38) n 0 = S5 at *
    rw [s10_g52 m5.1, Option.bind_some, s10_g54 m5.1, Option.bind_some, h54e, s10_w52 m5.1 (by omega), Option.bind_some]
    obtain ⟨f6, m6, v6, o6⟩ := g_wr (k := 39) (n := n) (v := -1) m5.1 (by omega) (s10_v52 m5.1 n _)
    have r6 := RP_wr r5 (by omega) m6
    have h54f : fI ((wI S5 (m + 39) n (-1)).2 m) 54 = nI n := by rw [wI_ne _ _ _ (show m ≠ m + 39 by omega)]; exact h54e
    generalize wI S5 (m + 39) n (-1) = S6 at *
    have f16 : Rg S S6 m n := Rg_trans f1 (Rg_trans f2 (Rg_trans f3 (Rg_trans f4 (Rg_trans f5 f6))))
    have w33 : cI (S6.2 (m + 33)) n = nI lv := by rw [o6 33 (by decide), o5 33 (by decide), o4 33 (by decide), o3 33 (by decide)]; exact v2
    have w36 : cI (S6.2 (m + 36)) n = -1 := by rw [o6 36 (by decide), o5 36 (by decide), o4 36 (by decide)]; exact v3
    have w37 : cI (S6.2 (m + 37)) n = 0 := by rw [o6 37 (by decide), o5 37 (by decide)]; exact v4
    have w38 : cI (S6.2 (m + 38)) n = 0 := by rw [o6 38 (by decide)]; exact v5
    have newI := g_215 (lv := lv) f16 r6 ht h1 h54f hl w33 w36 w37 w38 v6
    have eN : ¬ (0 < n ∧ nxt tx q = 42) → rdE2 tx n lv q = rdN tx lv q := fun z => if_neg z
    rw [r_here m6.1 r6 ht (by omega), Option.bind_some]
    by_cases c : nxt tx q = 42
    · rw [if_neg (show ¬ ¬ here tx q = 42 from fun w => w ((here_eq ht q (by decide)).mpr c)), s10_g54 m6.1, Option.bind_some, h54f]
      by_cases c0 : n = 0
      · rw [if_pos (show nI n ≤ (0 : Int32) by rw [c0]; decide), eN (fun z => by omega)]
        exact newI
      · have hp1 := nxt_in c (by decide)
        have eS : rdE2 tx n lv q = if 0 < nuC tx 3 (q + 1) ∧ nuV tx 3 (q + 1) < n then (true, q + 1 + nuC tx 3 (q + 1), (lv, some (nuV tx 3 (q + 1)), [], -1, 0, false)) else (false, q + 1, e0E lv) := if_pos ⟨by omega, c⟩
        obtain ⟨S7, e7, m7, r7⟩ := RP_p m6.1 r6 (q + 1)
        have h54g : fI (S7.2 m) 54 = nI n := by rw [m7.2.2.2.2 54 (by decide)]; exact h54f
        rw [if_neg (show ¬ nI n ≤ (0 : Int32) from nI_ge (a := 0) (by omega) (by omega)), s10_g21 m6.1, Option.bind_some, r6.1, nI_1, e7, Option.bind_some, s10_g21 m7.1, Option.bind_some, r7.1, s10_g52 m7.1, Option.bind_some, s10_g54 m7.1, Option.bind_some, h54g]
        obtain ⟨S8, v, e8, m8, r8, hv⟩ := r_number (d := 3) m7.1 r7 ht hp1 (by decide) (by decide)
        rw [if_pos rfl, Bool.true_and] at r8
        have h54h : fI (S8.2 m) 54 = nI n := by rw [m8.2.2.2.2 54 (by decide)]; exact h54g
        rw [show F_X10_number S7 m (3 : Int32) = some (v, S8) from e8, Option.bind_some]
        dsimp only
        rw [s10_w52 m8.1 (by omega), Option.bind_some]
        obtain ⟨f9, m9, v9, o9⟩ := g_wr (k := 39) (n := n) (v := v) m8.1 (by omega) (s10_v52 m8.1 n _)
        have r9 := RP_wr r8 (by omega) m9
        have h54i : fI ((wI S8 (m + 39) n v).2 m) 54 = nI n := by rw [wI_ne _ _ _ (show m ≠ m + 39 by omega)]; exact h54h
        generalize wI S8 (m + 39) n v = S9 at *
        have f19 : Rg S S9 m n := Rg_trans f16 (Rg_trans (Rg_M m7 (by decide)) (Rg_trans (Rg_M m8 (by decide)) f9))
        have w33' : cI (S9.2 (m + 33)) n = nI lv := by rw [o9 33 (by decide), m8.2.2.2.1 33 (by simp) (by decide), m7.2.2.2.1 33 (by simp) (by decide)]; exact w33
        rw [s10_g23 m9.1, Option.bind_some, r9.2.2.1]
        unfold F_X10_readsEntry_212
        by_cases z : 0 < nuC tx 3 (q + 1)
        · rw [decide_eq_true z] at r9 ⊢
          rw [ite1 rfl, s10_g52 m9.1, Option.bind_some, s10_g54 m9.1, Option.bind_some, h54i, s10_r52 m9.1 (by omega), Option.bind_some, v9, hv rfl z, Option.bind_some]
          have hvl := nuV_lt ht (q + 1) 3 (by decide)
          by_cases y : nuV tx 3 (q + 1) < n
          · rw [if_pos (nI_lt y (by omega)), eS, if_pos ⟨z, y⟩]
            exact g_end f19 h54i r9 (fun w => by cases w) (fun _ => Or.inl rfl) (fun _ => ⟨w33', by rw [v9, hv rfl z]; rfl, (fun w => by cases w)⟩)
          · obtain ⟨S10, e10, m10, r10⟩ := RP_g m9.1 r9 false
            obtain ⟨S11, e11, m11, r11⟩ := RP_p m10.1 r10 (q + 1)
            rw [if_neg (nI_nlt (by omega) (by omega)), show oPZ S9 m 10 23 (0 : Int32) = some S10 from e10, Option.bind_some, e11, Option.bind_some, eS, if_neg (fun w => y w.2)]
            exact g_end (Rg_trans f19 (Rg_trans (Rg_M m10 (by decide)) (Rg_M m11 (by decide)))) (by rw [m11.2.2.2.2 54 (by decide), m10.2.2.2.2 54 (by decide)]; exact h54i) r11 (fun _ => rfl) (fun w => by cases w) (fun w => by cases w)
        · rw [decide_eq_false z] at r9 ⊢
          have hz : nuC tx 3 (q + 1) = 0 := by omega
          rw [hz, Nat.add_zero] at r9
          rw [ite0 rfl, eS, if_neg (fun w => z w.1)]
          exact g_end f19 h54i r9 (fun _ => rfl) (fun w => by cases w) (fun w => by cases w)
    · rw [if_pos (show ¬ here tx q = 42 from fun w => c ((here_eq ht q (by decide)).mp w)), eN (fun z => c z.2)]
      exact newI
end RE2
