/-! one entry is read: the class, all of it -/
section EN2
variable {S : pS} {tx : List Int32} {p b n : Nat}
/-- what the marks leave -/
def mkE (S S' : pS) (b n : Nat) (tx : List Int32) (r : Bool × Nat × Ent) : Prop := XP S' tx r.2.1 ∧ Ef S S' b n ∧ (∀ j, j = 1 ∨ j = 2 ∨ j = 3 ∨ j = 4 → S'.2 (b + j) = S.2 (b + j)) ∧ (r.1 = true → cI (S'.2 (b + 5)) n = r.2.2.2.2.2.1 ∧ cI (S'.2 (b + 6)) n = r.2.2.2.2.2.2.1 ∧ cI (S'.2 (b + 7)) n = (if r.2.2.2.2.2.2.2 = true then 1 else 0))
theorem e_done {d : Bool} (hs : Sh S b sp2) (hb : 55 ≤ b) (h : XP S tx p) (hn : n < 40) : F_X2_readNewItem_136 S (b + 7) (nI n) (if d = true then 1 else 0) = some (1, wI S (b + 7) n (if d = true then 1 else 0)) ∧ XP (wI S (b + 7) n (if d = true then 1 else 0)) tx p ∧ Ef S (wI S (b + 7) n (if d = true then 1 else 0)) b n ∧ cI ((wI S (b + 7) n (if d = true then 1 else 0)).2 (b + 7)) n = (if d = true then 1 else 0) ∧ ∀ j, j ≠ 7 → (wI S (b + 7) n (if d = true then 1 else 0)).2 (b + j) = S.2 (b + j) := by
  unfold F_X2_readNewItem_136
  obtain ⟨x1, f1, v1, o1⟩ := e_wr (k := 7) (n := n) (v := if d = true then 1 else 0) hs hb h (by omega) (s2_v6 hs n (bo_nar d))
  rw [s2_w6 hs hn, Option.bind_some]
  exact ⟨rfl, x1, f1, v1, o1⟩
theorem e_122 (hs : Sh S b sp2) (hb : 55 ≤ b) (h : XP S tx p) (ht : txOk tx) (hp : p ≤ tx.length) (hn : n < 40) (lv : Nat) (nm : List Int32) (dy vl : Int32) (h5 : cI (S.2 (b + 5)) n = dy) (h6 : cI (S.2 (b + 6)) n = vl) : ∃ S', F_X2_readNewItem_122 S 53 (b + 7) (nI n) = some (1, S') ∧ mkE S S' b n tx (rdM3 tx lv nm dy vl true p) ∧ (rdM3 tx lv nm dy vl true p).1 = true := by
  unfold F_X2_readNewItem_122 F_X2_readNewItem_135 rdM3
  obtain ⟨S1, e1, x1, m1, -⟩ := c_take h ht hp 120 (by decide)
  have f1 := Ef_53 (n := n) hs hb m1
  have o1 : ∀ j, S1.2 (b + j) = S.2 (b + j) := fun j => m1.2.1 _ (by omega)
  rw [e1, Option.bind_some]
  dsimp only
  by_cases c : nxt tx p = 120
  · rw [if_pos c] at x1
    obtain ⟨e2, x2, f2, v2, o2⟩ := e_done (d := true) f1.2.2.1 hb x1 hn
    rw [itp1 c, if_pos ⟨rfl, c⟩]
    exact ⟨_, e2, ⟨x2, Ef_trans f1 f2, fun j hj => (o2 j (by omega)).trans (o1 j), fun _ => ⟨by rw [o2 5 (by decide), o1]; exact h5, by rw [o2 6 (by decide), o1]; exact h6, v2⟩⟩, rfl⟩
  · rw [if_neg c] at x1
    obtain ⟨e2, x2, f2, v2, o2⟩ := e_done (d := false) f1.2.2.1 hb x1 hn
    rw [itp0 c, if_neg (fun z => c z.2)]
    exact ⟨_, e2, ⟨x2, Ef_trans f1 f2, fun j hj => (o2 j (by omega)).trans (o1 j), fun _ => ⟨by rw [o2 5 (by decide), o1]; exact h5, by rw [o2 6 (by decide), o1]; exact h6, v2⟩⟩, rfl⟩
theorem mk_lift {S1 S' : pS} {r : Bool × Nat × Ent} (f : Ef S S1 b n) (o : ∀ j, j = 1 ∨ j = 2 ∨ j = 3 ∨ j = 4 → S1.2 (b + j) = S.2 (b + j)) (h : mkE S1 S' b n tx r) : mkE S S' b n tx r := ⟨h.1, Ef_trans f h.2.1, fun j hj => (h.2.2.1 j hj).trans (o j hj), h.2.2.2⟩
theorem e_94 {hd hv : Bool} {vl : Int32} (hs : Sh S b sp2) (hb : 55 ≤ b) (h : XP S tx p) (ht : txOk tx) (hp : p ≤ tx.length) (hn : n < 40) (lv : Nat) (nm : List Int32) (dy : Int32) (h5 : cI (S.2 (b + 5)) n = dy) : ∃ S', F_X2_readNewItem_94 S b 53 (nI n) (if hd = true then 1 else 0) (if hv = true then 1 else 0) (b + 6) (nI n) vl = some (if vl = -1000000 then 0 else 1, S') ∧ mkE S S' b n tx (if vl = -1000000 then (false, p, e0E lv) else rdM3 tx lv nm dy vl (hd || hv) p) ∧ (vl ≠ -1000000 → (rdM3 tx lv nm dy vl (hd || hv) p).1 = true) := by
  unfold F_X2_readNewItem_94
  obtain ⟨x1, f1, v1, o1⟩ := e_wr (k := 6) (n := n) (v := vl) hs hb h (by omega) (s2_v5 hs n vl)
  rw [s2_w5 hs hn, Option.bind_some]
  generalize wI S (b + 6) n vl = S1 at *
  have s1 := f1.2.2.1
  have lo : ∀ j, j = 1 ∨ j = 2 ∨ j = 3 ∨ j = 4 → S1.2 (b + j) = S.2 (b + j) := fun j hj => o1 j (by omega)
  rw [s2_g5 s1, Option.bind_some, s2_r5 s1 hn, Option.bind_some, v1]
  by_cases c : vl = -1000000
  · rw [if_neg (fun z => z c), if_pos c, if_pos c]
    exact ⟨S1, rfl, ⟨x1, f1, lo, fun z => by cases z⟩, fun z => absurd c z⟩
  · rw [if_pos c, if_neg c, if_neg c, s2_g6 s1, Option.bind_some]
    have h5' : cI (S1.2 (b + 5)) n = dy := by rw [o1 5 (by decide)]; exact h5
    have yes : (hd || hv) = true → ∃ S', F_X2_readNewItem_122 S1 53 (b + 7) (nI n) = some (1, S') ∧ mkE S S' b n tx (rdM3 tx lv nm dy vl (hd || hv) p) ∧ (vl ≠ -1000000 → (rdM3 tx lv nm dy vl (hd || hv) p).1 = true) := by
      intro y
      rw [y]
      obtain ⟨S2, e2, k2, t2⟩ := e_122 s1 hb x1 ht hp hn lv nm dy vl h5' v1
      exact ⟨S2, e2, mk_lift f1 lo k2, fun _ => t2⟩
    cases hd with
    | true =>
      rw [if_pos (show ¬ (if true = true then (1 : Int32) else 0) = 0 by decide)]
      exact yes rfl
    | false =>
      rw [if_neg (show ¬ ¬ (if false = true then (1 : Int32) else 0) = 0 from fun z => z rfl)]
      cases hv with
      | true =>
        rw [if_neg (by decide)]
        exact yes rfl
      | false =>
        rw [if_pos (by decide)]
        unfold F_X2_readNewItem_135 rdM3
        obtain ⟨e2, x2, f2, v2, o2⟩ := e_done (d := false) s1 hb x1 hn
        rw [if_neg (fun z => by cases z.1)]
        exact ⟨_, e2, ⟨x2, Ef_trans f1 f2, fun j hj => (o2 j (by omega)).trans (lo j hj), fun _ => ⟨by rw [o2 5 (by decide)]; exact h5', by rw [o2 6 (by decide)]; exact v1, v2⟩⟩, fun _ => rfl⟩
theorem e_54 {hd : Bool} {dy : Int32} (hs : Sh S b sp2) (hb : 55 ≤ b) (h : XP S tx p) (ht : txOk tx) (hp : p ≤ tx.length) (hn : n < 40) (lv : Nat) (nm : List Int32) : ∃ S', F_X2_readNewItem_54 S b 53 (nI n) (if hd = true then 1 else 0) (b + 5) (nI n) dy = some (if (if dy = -1000000 then (false, p, e0E lv) else rdM2 tx lv nm dy hd p).1 = true then 1 else 0, S') ∧ mkE S S' b n tx (if dy = -1000000 then (false, p, e0E lv) else rdM2 tx lv nm dy hd p) := by
  unfold F_X2_readNewItem_54
  obtain ⟨x1, f1, v1, o1⟩ := e_wr (k := 5) (n := n) (v := dy) hs hb h (by omega) (s2_v4 hs n dy)
  rw [s2_w4 hs hn, Option.bind_some]
  generalize wI S (b + 5) n dy = S1 at *
  have s1 := f1.2.2.1
  have lo : ∀ j, j = 1 ∨ j = 2 ∨ j = 3 ∨ j = 4 → S1.2 (b + j) = S.2 (b + j) := fun j hj => o1 j (by omega)
  rw [s2_g4 s1, Option.bind_some, s2_r4 s1 hn, Option.bind_some, v1]
  by_cases c : dy = -1000000
  · rw [if_neg (fun z => z c), if_pos c]
    exact ⟨S1, rfl, ⟨x1, f1, lo, fun z => by cases z⟩⟩
  · rw [if_pos c, if_neg c]
    unfold rdM2
    obtain ⟨S2, e2, x2, m2, p2⟩ := c_take x1 ht hp 61 (by decide)
    have f2 := Ef_53 (n := n) s1 hb m2
    have lo2 : ∀ j, j = 1 ∨ j = 2 ∨ j = 3 ∨ j = 4 → S2.2 (b + j) = S.2 (b + j) := fun j hj => (m2.2.1 _ (by omega)).trans (lo j hj)
    have h5 : cI (S2.2 (b + 5)) n = dy := by rw [m2.2.1 _ (by omega)]; exact v1
    rw [e2, Option.bind_some]
    dsimp only
    rw [s2_g5 f2.2.2.1, Option.bind_some]
    by_cases d : nxt tx p = 61
    · rw [if_pos d] at x2
      obtain ⟨S3, e3, x3, m3, p3⟩ := c_takeValue x2 ht (p2 d)
      have f3 := Ef_53 (n := n) f2.2.2.1 hb m3
      have lo3 : ∀ j, j = 1 ∨ j = 2 ∨ j = 3 ∨ j = 4 → S3.2 (b + j) = S.2 (b + j) := fun j hj => (m3.2.1 _ (by omega)).trans (lo2 j hj)
      have h5' : cI (S3.2 (b + 5)) n = dy := by rw [m3.2.1 _ (by omega)]; exact h5
      rw [itp1 d, if_pos d, e3, Option.bind_some]
      dsimp only
      obtain ⟨S4, e4, k4, t4⟩ := e_94 (hd := hd) (hv := true) (vl := if 0 < nuC tx 3 (vaP tx (p + 1)) then vaV tx (p + 1) else -1000000) f3.2.2.1 hb x3 ht p3 hn lv nm dy h5'
      have e4' := e4
      rw [show (if true = true then (1 : Int32) else 0) = 1 from rfl] at e4'
      rw [e4', if_pos d]
      rw [Bool.or_true] at k4 t4
      have kk := mk_lift (Ef_trans f1 (Ef_trans f2 f3)) lo3 k4
      by_cases z : 0 < nuC tx 3 (vaP tx (p + 1))
      · have hv : ¬ vaV tx (p + 1) = (-1000000 : Int32) := by
          have := neg_n _ (nuV_lt ht (vaP tx (p + 1)) 3 (by decide))
          unfold vaV
          by_cases y : nxt tx (p + 1) = 45
          · rw [if_pos y]; exact this.2.1
          · rw [if_neg y]; exact this.1
        rw [if_pos z] at t4 kk ⊢
        rw [if_neg hv] at kk
        rw [if_neg hv, if_pos z, if_pos (t4 hv)]
        exact ⟨S4, rfl, kk⟩
      · rw [if_neg z] at kk ⊢
        rw [if_pos rfl] at kk
        rw [if_pos rfl, if_neg z]
        exact ⟨S4, rfl, kk⟩
    · rw [if_neg d] at x2
      rw [itp0 d, if_neg d]
      obtain ⟨S4, e4, k4, t4⟩ := e_94 (hd := hd) (hv := false) (vl := 0) f2.2.2.1 hb x2 ht hp hn lv nm dy h5
      have e4' := e4
      rw [show (if false = true then (1 : Int32) else 0) = 0 from rfl] at e4'
      rw [e4', if_neg d, if_neg (by decide)]
      rw [Bool.or_false, if_neg (by decide)] at k4
      rw [Bool.or_false] at t4
      rw [if_pos (t4 (by decide))]
      exact ⟨S4, rfl, mk_lift (Ef_trans f1 f2) lo2 k4⟩
/-- a new item -/
def rdN (tx : List Int32) (lv p : Nat) : Bool × Nat × Ent := if 0 < ltC tx 10 p then rdM1 tx lv (ltL tx p) (p + ltC tx 10 p) else (false, p, e0E lv)
theorem rdN_e {lv : Nat} (h : (rdN tx lv p).1 = true) (ht : txOk tx) (hp : p ≤ tx.length) : ∃ y v d, (rdN tx lv p).2.2 = (lv, none, ltL tx p, y, v, d) := by
  unfold rdN at h ⊢
  by_cases z : 0 < ltC tx 10 p
  · rw [if_pos z] at h ⊢
    obtain ⟨y, v, d, e, -⟩ := (rdM1_ok (lv := lv) (nm := ltL tx p) ht (ltC_le (tx := tx) (n := 10) hp)).2.2 h
    exact ⟨y, v, d, e⟩
  · rw [if_neg z] at h; cases h
theorem c_newItem (hs : Sh S b sp2) (hb : 55 ≤ b) (h : XP S tx p) (ht : txOk tx) (hp : p ≤ tx.length) (hn : n < 40) (lv : Nat) : ∃ S', F_X2_readNewItem S b 53 (nI n) = some (if (rdN tx lv p).1 = true then 1 else 0, S') ∧ XP S' tx (rdN tx lv p).2.1 ∧ Ef S S' b n ∧ S'.2 (b + 1) = S.2 (b + 1) ∧ S'.2 (b + 2) = S.2 (b + 2) ∧ ((rdN tx lv p).1 = true → cI (S'.2 (b + 4)) n = nI (rdN tx lv p).2.2.2.2.1.length ∧ (∀ (k : Nat) x, (rdN tx lv p).2.2.2.2.1[k]? = some x → cI (S'.2 (b + 3)) (10 * n + k) = x) ∧ cI (S'.2 (b + 5)) n = (rdN tx lv p).2.2.2.2.2.1 ∧ cI (S'.2 (b + 6)) n = (rdN tx lv p).2.2.2.2.2.2.1 ∧ cI (S'.2 (b + 7)) n = (if (rdN tx lv p).2.2.2.2.2.2.2 = true then 1 else 0)) := by
  have hle := ltC_le (tx := tx) (n := 10) hp
  have h10 := (ltC_sp (tx := tx) 10 p).1
  have hne := fun z => rdN_e (tx := tx) (lv := lv) (p := p) z ht hp
  unfold F_X2_readNewItem
  have hra : rawA S (b + 3) .char 400 := by
    have hsz := hs.1
    have hl2 : sp2.length = 9 := rfl
    obtain ⟨f, r2, r3⟩ := hs.2 3 _ rfl
    exact ⟨by omega, f, r2, r3⟩
  obtain ⟨S2, e2, x2, n2, o2, w2, l2, k2, sh2⟩ := c_takeLetters (a := b + 3) (N := 400) (o := 10 * n) h ht hp hra (by omega) (by omega) (by omega) (by decide)
  have s2 : Sh S2 b sp2 := sh2 b sp2 hs (by decide) (by omega)
  have f2 : Ef S S2 b n := ⟨n2, fun q a c => o2 q (by omega) a, s2, fun k i a c d _ => by rw [o2 (b + k) (by omega) (by omega)], fun i a => k2 i (Or.inl a)⟩
  rw [s2_oF hs, s2_g3 hs, Option.bind_some, s2_g2 hs, Option.bind_some, li_10, pk_mul, Nat.mul_comm n 10, e2, Option.bind_some]
  dsimp only
  obtain ⟨x3, f3, v3, o3⟩ := e_wr (k := 4) (n := n) (v := nI (ltC tx 10 p)) s2 hb x2 (by omega) (s2_v3 s2 n _)
  rw [s2_w3 s2 hn, Option.bind_some]
  generalize wI S2 (b + 4) n (nI (ltC tx 10 p)) = S3 at *
  have s3 := f3.2.2.1
  have f23 := Ef_trans f2 f3
  have l3 : ∀ i, i < ltC tx 10 p → cI (S3.2 (b + 3)) (10 * n + i) = nxt tx (p + i) := fun i hi => by rw [o3 3 (by decide)]; exact l2 i hi
  have o23 : ∀ j, j = 1 ∨ j = 2 → S3.2 (b + j) = S.2 (b + j) := fun j hj => by rw [o3 j (by omega), o2 _ (by omega) (by omega)]
  rw [s2_g3 s3, Option.bind_some, s2_r3 s3 hn, Option.bind_some, v3]
  unfold rdN at hne ⊢
  by_cases z : 0 < ltC tx 10 p
  · rw [if_pos (nI_n0 (show ¬ ltC tx 10 p = 0 by omega) (by omega))]
    simp only [if_pos z] at hne ⊢
    obtain ⟨S4, e4, x4, m4, p4⟩ := c_take x3 ht hle 64 (by decide)
    have f4 := Ef_53 (n := n) s3 hb m4
    have o4 : ∀ j, S4.2 (b + j) = S3.2 (b + j) := fun j => m4.2.1 _ (by omega)
    rw [e4, Option.bind_some]
    dsimp only
    rw [s2_g4 f4.2.2.1, Option.bind_some]
    -- what stands at the end
    have fin : ∀ (r : Bool × Nat × Ent) (S5 S6 : pS), Ef S3 S5 b n → (∀ j, S5.2 (b + j) = S3.2 (b + j)) → mkE S5 S6 b n tx r → (r.1 = true → ∃ y v d, r.2.2 = (lv, none, ltL tx p, y, v, d)) → ∃ S', some ((if r.1 = true then (1 : Int32) else 0), S6) = some (if r.1 = true then 1 else 0, S') ∧ XP S' tx r.2.1 ∧ Ef S S' b n ∧ S'.2 (b + 1) = S.2 (b + 1) ∧ S'.2 (b + 2) = S.2 (b + 2) ∧ (r.1 = true → cI (S'.2 (b + 4)) n = nI r.2.2.2.2.1.length ∧ (∀ (k : Nat) x, r.2.2.2.2.1[k]? = some x → cI (S'.2 (b + 3)) (10 * n + k) = x) ∧ cI (S'.2 (b + 5)) n = r.2.2.2.2.2.1 ∧ cI (S'.2 (b + 6)) n = r.2.2.2.2.2.2.1 ∧ cI (S'.2 (b + 7)) n = (if r.2.2.2.2.2.2.2 = true then 1 else 0)) := by
      rintro r S5 S6 f5 o5 ⟨a1, a2, a3, a4⟩ hr
      refine ⟨S6, rfl, a1, Ef_trans f23 (Ef_trans f5 a2), by rw [a3 1 (by omega), o5]; exact o23 1 (by omega), by rw [a3 2 (by omega), o5]; exact o23 2 (by omega), fun y => ?_⟩
      obtain ⟨b1, b2, b3⟩ := a4 y
      obtain ⟨yy, vv, dd, er⟩ := hr y
      refine ⟨?_, fun k x hk => ?_, b1, b2, b3⟩
      · rw [a3 4 (by omega), o5, v3, er]
        show _ = nI (ltL tx p).length
        rw [ltL_len hp]
      · rw [er] at hk
        obtain ⟨c1, c2, -⟩ := ltL_get hp hk
        rw [a3 3 (by omega), o5, l3 k c1, c2]
    unfold rdM1 at hne ⊢
    by_cases d : nxt tx (p + ltC tx 10 p) = 64
    · rw [if_pos d] at x4
      simp only [if_pos d] at hne ⊢
      have e41 : (if (1 : Int32) = 0 then F_X2_readNewItem_54 S4 b 53 (nI n) 1 (b + 5) (nI n) (-1 : Int32) else (F_X7_takeNumber S4 53 (4 : Int32)).bind fun q41 => F_X2_readNewItem_54 q41.2 b 53 (nI n) 1 (b + 5) (nI n) q41.1) = (F_X7_takeNumber S4 53 (4 : Int32)).bind fun q41 => F_X2_readNewItem_54 q41.2 b 53 (nI n) 1 (b + 5) (nI n) q41.1 := if_neg (by decide)
      rw [e41]
      obtain ⟨S5, e5, x5, m5, p5⟩ := c_takeNumber (d := 4) x4 ht (p4 d) (by decide) (by decide)
      have f5 := Ef_53 (n := n) f4.2.2.1 hb m5
      have o5 : ∀ j, S5.2 (b + j) = S3.2 (b + j) := fun j => (m5.2.1 _ (by omega)).trans (o4 j)
      have e5' : F_X7_takeNumber S4 53 (4 : Int32) = _ := e5
      rw [e5', Option.bind_some]
      dsimp only
      obtain ⟨S6, e6, k6⟩ := e_54 (hd := true) (dy := if 0 < nuC tx 4 (p + ltC tx 10 p + 1) then nI (nuV tx 4 (p + ltC tx 10 p + 1)) else -1000000) f5.2.2.1 hb x5 ht p5 hn lv (ltL tx p)
      have e6' : F_X2_readNewItem_54 S5 b 53 (nI n) 1 (b + 5) (nI n) (if 0 < nuC tx 4 (p + ltC tx 10 p + 1) then nI (nuV tx 4 (p + ltC tx 10 p + 1)) else -1000000) = _ := e6
      rw [e6']
      by_cases y : 0 < nuC tx 4 (p + ltC tx 10 p + 1)
      · rw [if_pos y, if_neg (dyV_bd ht _).2.2] at k6 ⊢
        simp only [if_pos y] at hne ⊢
        exact fin _ S5 S6 (Ef_trans f4 f5) o5 k6 hne
      · rw [if_neg y, if_pos rfl] at k6 ⊢
        simp only [if_neg y] at hne ⊢
        refine fin (false, p + ltC tx 10 p + 1 + nuC tx 4 (p + ltC tx 10 p + 1), e0E lv) S5 S6 (Ef_trans f4 f5) o5 k6 (fun z => by cases z)
    · rw [if_neg d] at x4
      simp only [if_neg d] at hne ⊢
      rw [if_pos trivial]
      obtain ⟨S6, e6, k6⟩ := e_54 (hd := false) (dy := -1) f4.2.2.1 hb x4 ht hle hn lv (ltL tx p)
      have e6' : F_X2_readNewItem_54 S4 b 53 (nI n) 0 (b + 5) (nI n) (-1 : Int32) = _ := e6
      rw [e6']
      rw [if_neg (show ¬ (-1 : Int32) = -1000000 by decide)] at k6 ⊢
      exact fin _ S4 S6 f4 o4 k6 hne
  · have hz : ltC tx 10 p = 0 := by omega
    rw [if_neg (show ¬ ¬ nI (ltC tx 10 p) = 0 from fun w => w (by rw [hz]; rfl))]
    simp only [if_neg z]
    rw [hz] at x3
    exact ⟨S3, rfl, x3, f23, o23 1 (by omega), o23 2 (by omega), fun w => by cases w⟩
end EN2
