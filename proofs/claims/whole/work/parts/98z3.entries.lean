/-! entries are read: the class -/
section EN3
variable {S : pS} {tx : List Int32} {p b n : Nat}
def mostL (L : List Ent) : Nat := match L.getLast? with
  | none => 0
  | some e => if e.2.1 = none then e.1 + 1 else e.1
def ELo (L : List Ent) : Prop := ∀ (j : Nat) e, L[j]? = some e → e.1 ≤ j ∧ eOk j (mostL (L.take j)) e
theorem mostL_snoc (L : List Ent) (e : Ent) : mostL (L ++ [e]) = if e.2.1 = none then e.1 + 1 else e.1 := by
  unfold mostL
  rw [List.getLast?_append]
  rfl
theorem mostL_le {L : List Ent} (h : ELo L) : mostL L ≤ L.length := by
  rcases List.eq_nil_or_concat L with z | ⟨L', e, z⟩
  · rw [z]; exact Nat.le_refl _
  · rw [List.concat_eq_append] at z
    subst z
    rw [mostL_snoc, List.length_append, List.length_singleton]
    have := (h L'.length e (by rw [List.getElem?_append_right (Nat.le_refl _), Nat.sub_self]; rfl)).1
    by_cases c : e.2.1 = none
    · rw [if_pos c]; omega
    · rw [if_neg c]; omega
theorem ELo_snoc {L : List Ent} {e : Ent} (h : ELo L) (he : eOk L.length (mostL L) e) : ELo (L ++ [e]) := by
  intro j e' hj
  have hj2 := (List.getElem?_eq_some_iff.mp hj).1
  rw [List.length_append, List.length_singleton] at hj2
  by_cases z : j = L.length
  · subst z
    rw [List.getElem?_append_right (Nat.le_refl _), Nat.sub_self] at hj
    have : e = e' := by simpa using hj
    subst this
    rw [List.take_left']
    · have := mostL_le h
      exact ⟨Nat.le_trans he.1 this, he⟩
    · rfl
  · rw [List.getElem?_append_left (by omega)] at hj
    rw [List.take_append_of_le_length (by omega)]
    exact h j e' hj
def rdO (tx : List Int32) : Nat → Nat → List Ent → Bool × Nat × List Ent
  | 0, p, L => (false, p, L)
  | n + 1, p, L => if (rdE tx L.length (mostL L) p).1 = true then (if nxt tx (rdE tx L.length (mostL L) p).2.1 = 59 then rdO tx n ((rdE tx L.length (mostL L) p).2.1 + 1) (L ++ [(rdE tx L.length (mostL L) p).2.2]) else (decide ((rdE tx L.length (mostL L) p).2.1 = tx.length), (rdE tx L.length (mostL L) p).2.1, L ++ [(rdE tx L.length (mostL L) p).2.2])) else (false, (rdE tx L.length (mostL L) p).2.1, L)
theorem rdO_s (n p : Nat) (L : List Ent) : rdO tx (n + 1) p L = if (rdE tx L.length (mostL L) p).1 = true then (if nxt tx (rdE tx L.length (mostL L) p).2.1 = 59 then rdO tx n ((rdE tx L.length (mostL L) p).2.1 + 1) (L ++ [(rdE tx L.length (mostL L) p).2.2]) else (decide ((rdE tx L.length (mostL L) p).2.1 = tx.length), (rdE tx L.length (mostL L) p).2.1, L ++ [(rdE tx L.length (mostL L) p).2.2])) else (false, (rdE tx L.length (mostL L) p).2.1, L) := rfl
theorem rdO_ok (ht : txOk tx) : ∀ (n p : Nat) (L : List Ent), p ≤ tx.length → ELo L → (rdO tx n p L).2.1 ≤ tx.length ∧ ELo (rdO tx n p L).2.2 ∧ (rdO tx n p L).2.2.length ≤ L.length + n := by
  intro n
  induction n with
  | zero => intro p L hp hL; exact ⟨hp, hL, Nat.le_refl _⟩
  | succ n ih =>
    intro p L hp hL
    rw [rdO_s]
    obtain ⟨h1, h2⟩ := rdE_ok (k := L.length) (most := mostL L) ht hp
    cases c : (rdE tx L.length (mostL L) p).1
    · rw [if_neg (by decide)]
      exact ⟨h1, hL, by show L.length ≤ _; omega⟩
    · rw [if_pos rfl]
      have hL2 := ELo_snoc hL (h2 c).2
      have hlen : (L ++ [(rdE tx L.length (mostL L) p).2.2]).length = L.length + 1 := by rw [List.length_append]; rfl
      by_cases a : nxt tx (rdE tx L.length (mostL L) p).2.1 = 59
      · rw [if_pos a]
        obtain ⟨g1, g2, g3⟩ := ih _ _ (nxt_in a (by decide)) hL2
        exact ⟨g1, g2, by omega⟩
      · rw [if_neg a]
        exact ⟨h1, hL2, by show (L ++ [_]).length ≤ _; omega⟩
def RwsE (S : pS) (b : Nat) (L : List Ent) : Prop := ∀ (j : Nat) e, L[j]? = some e → rowE S b j e
theorem srI_ne {s : Option Nat} (h : ∀ v, s = some v → v < 100) : srI s = (-1000000 : Int32) ↔ s = none := by
  cases s with
  | none => exact ⟨fun _ => rfl, fun _ => rfl⟩
  | some v =>
    refine ⟨fun z => ?_, fun z => by cases z⟩
    have hv := h v rfl
    have z' : nI v = (-1000000 : Int32) := z
    exact absurd z' (neg_n v (by omega)).1
theorem c_isClone {L : List Ent} {j : Nat} {e : Ent} (hs : Sh S b sp2) (hr : RwsE S b L) (hL : ELo L) (hl : L.length ≤ 40) (he : L[j]? = some e) : F_X2_isClone S b (nI j) = some (if e.2.1 = none then 0 else 1) := by
  have hj := (List.getElem?_eq_some_iff.mp he).1
  have h1 := hr j e he
  have h2 := hL j e he
  unfold F_X2_isClone
  rw [s2_oF hs, s2_g1 hs, Option.bind_some, s2_r1 hs (by omega), Option.bind_some, h1.2.1]
  have := srI_ne (s := e.2.1) (fun v hv => by have := h2.2.2.1 v hv; omega)
  by_cases c : e.2.1 = none
  · rw [if_pos (this.mpr c), if_pos c]
  · rw [if_neg (fun z => c (this.mp z)), if_neg c]
theorem c_deep {L : List Ent} (hs : Sh S b sp2) (hr : RwsE S b L) (hL : ELo L) (hl : L.length ≤ 40) : F_X2_deepestLevel S b (nI L.length) = some (nI (mostL L)) := by
  unfold F_X2_deepestLevel
  rw [s2_oF hs]
  rcases List.eq_nil_or_concat L with z | ⟨L', e, z⟩
  · subst z
    rw [if_neg (show ¬ ¬ nI ([] : List Ent).length = 0 from fun z => z rfl)]
    rfl
  · rw [List.concat_eq_append] at z
    subst z
    have hlen : (L' ++ [e]).length = L'.length + 1 := by rw [List.length_append]; rfl
    have he : (L' ++ [e])[L'.length]? = some e := by rw [List.getElem?_append_right (Nat.le_refl _), Nat.sub_self]; rfl
    rw [hlen] at hl ⊢
    rw [if_pos (nI_n0 (by omega) (by omega)), nI_pred, c_isClone hs hr hL (by omega) he, Option.bind_some, mostL_snoc]
    by_cases c : e.2.1 = none
    · rw [if_pos c, if_pos c, if_pos rfl, s2_g0 hs, Option.bind_some, s2_r0 hs (by omega), Option.bind_some, (hr _ e he).1, nI_1]
    · rw [if_neg c, if_neg c, if_neg (by decide), s2_g0 hs, Option.bind_some, s2_r0 hs (by omega), Option.bind_some, (hr _ e he).1]
theorem c_source (hs : Sh S b sp2) (hb : 55 ≤ b) (h : XP S tx p) (ht : txOk tx) (hp : p ≤ tx.length) (hn : n < 40) : ∃ S', F_X2_readSource S b 53 (nI n) = some (if 0 < nuC tx 3 p ∧ nuV tx 3 p < n then 1 else 0, S') ∧ XP S' tx (if 0 < nuC tx 3 p ∧ nuV tx 3 p < n then p + nuC tx 3 p else p) ∧ Ef S S' b n ∧ S'.2 (b + 1) = S.2 (b + 1) ∧ (0 < nuC tx 3 p ∧ nuV tx 3 p < n → cI (S'.2 (b + 2)) n = nI (nuV tx 3 p)) := by
  unfold F_X2_readSource
  have ep : F_X7_position S 53 = some (nI p) := by
    unfold F_X7_position
    rw [s7_oF h.1.1, s7_g2 h.1.1, Option.bind_some, h.2]
  obtain ⟨S1, e1, x1, m1, p1⟩ := c_takeNumber (d := 3) h ht hp (by decide) (by decide)
  have f1 := Ef_53 (n := n) hs hb m1
  have s1 := f1.2.2.1
  have hvl := nuV_lt ht p 3 (by decide)
  have e1' : F_X7_takeNumber S 53 (3 : Int32) = _ := e1
  rw [s2_oF hs, ep, Option.bind_some, e1', Option.bind_some]
  dsimp only
  have wr : ∀ v : Int32, ∃ S2, oSI S1 (b + 2) .int (nI n) v = some S2 ∧ XP S2 tx (p + nuC tx 3 p) ∧ Ef S S2 b n ∧ S2.2 (b + 1) = S.2 (b + 1) ∧ cI (S2.2 (b + 2)) n = v := by
    intro v
    obtain ⟨x2, f2, v2, o2⟩ := e_wr (k := 2) (n := n) (v := v) s1 hb x1 (by omega) (s2_v1 s1 n v)
    exact ⟨_, s2_w1 s1 hn v, x2, Ef_trans f1 f2, by rw [o2 1 (by decide), m1.2.1 _ (by omega)], v2⟩
  by_cases c : 0 < nuC tx 3 p
  · rw [if_pos c]
    by_cases d : nuV tx 3 p < n
    · obtain ⟨S2, e2, x2, f2, a2, b2⟩ := wr (nI (nuV tx 3 p))
      rw [if_pos (nI_lt d (by omega)), if_pos ⟨c, d⟩, if_pos ⟨c, d⟩, s2_g1 s1, Option.bind_some, e2, Option.bind_some, if_neg (neg_n _ hvl).1]
      exact ⟨S2, rfl, x2, f2, a2, fun _ => b2⟩
    · rw [if_neg (nI_nlt (by omega) (by omega)), if_neg (fun z => d z.2), if_neg (fun z => d z.2)]
      unfold F_X7_goTo
      obtain ⟨S2, e2, x2, m2⟩ := c_goto2 x1.1 p
      rw [s7_oF x1.1.1, e2, Option.bind_some, Option.bind_some]
      exact ⟨S2, rfl, x2, Ef_trans f1 (Ef_53 s1 hb m2), by rw [m2.2.1 _ (by omega), m1.2.1 _ (by omega)], fun z => absurd z.2 d⟩
  · have c0 : nuC tx 3 p = 0 := by omega
    obtain ⟨S2, e2, x2, f2, a2, b2⟩ := wr (-1000000)
    have hlt : (-1000000 : Int32) < nI n := Int32.lt_of_lt_of_le (show (-1000000 : Int32) < 0 by decide) (Int32.not_lt.mp (nI_pos (by omega)))
    rw [c0, Nat.add_zero] at x2
    rw [if_neg c, if_pos hlt, if_neg (fun z => c z.1), if_neg (fun z => c z.1), s2_g1 s1, Option.bind_some, e2, Option.bind_some, if_pos rfl]
    exact ⟨S2, rfl, x2, f2, a2, fun z => absurd z.1 c⟩
theorem c_entry {L : List Ent} (hs : Sh S b sp2) (hb : 55 ≤ b) (h : XP S tx p) (ht : txOk tx) (hp : p ≤ tx.length) (hl : L.length < 40) (hr : RwsE S b L) (hL : ELo L) : ∃ S', F_X2_readEntry S b 53 (nI L.length) = some (if (rdE tx L.length (mostL L) p).1 = true then 1 else 0, S') ∧ XP S' tx (rdE tx L.length (mostL L) p).2.1 ∧ Ef S S' b L.length ∧ ((rdE tx L.length (mostL L) p).1 = true → rowE S' b L.length (rdE tx L.length (mostL L) p).2.2) := by
  have hmost := mostL_le hL
  unfold F_X2_readEntry rdE
  rw [s2_oF hs, c_deep hs hr hL (by omega), Option.bind_some]
  obtain ⟨h1, h2⟩ := ptC_le (tx := tx) (mostL L) p hp
  obtain ⟨s', k, S1, k1, run, ex, x1, m1⟩ := c_pts (b := b) (n := L.length) (most := mostL L) ht (mostL L) 0 p S (Nat.zero_add _) (by omega) hp h
  have ei : iter (F_X2_readEntry_9 b 53 (nI L.length) (nI (mostL L))) fu ((0 : Int32), S) = _ := Run_end run (by omega) ex
  rw [ei, Option.bind_some, Nat.zero_add]
  have f1 := Ef_53 (n := L.length) hs hb m1
  have s1 := f1.2.2.1
  dsimp only
  generalize ptC tx (mostL L) p = lv at *
  generalize p + lv = q at *
  unfold F_X2_readEntry_30
  obtain ⟨x2, f2, v2, o2⟩ := e_wr (k := 1) (n := L.length) (v := nI lv) s1 hb x1 (by omega) (s2_v0 s1 L.length (nI lv))
  rw [s2_g0 s1, Option.bind_some, s2_w0 s1 hl, Option.bind_some]
  generalize wI S1 (b + 1) L.length (nI lv) = S2 at *
  have f12 := Ef_trans f1 f2
  have s2 := f12.2.2.1
  -- a new item
  have newI : ∀ (S3 : pS), Ef S S3 b L.length → XP S3 tx q → cI (S3.2 (b + 1)) L.length = nI lv → ∃ S', F_X2_readEntry_58 S3 b 53 (nI L.length) = some (if (rdN tx lv q).1 = true then 1 else 0, S') ∧ XP S' tx (rdN tx lv q).2.1 ∧ Ef S S' b L.length ∧ ((rdN tx lv q).1 = true → rowE S' b L.length (rdN tx lv q).2.2) := by
    intro S3 f3 x3 v3
    unfold F_X2_readEntry_58
    have s3 := f3.2.2.1
    obtain ⟨x4, f4, v4, o4⟩ := e_wr (k := 2) (n := L.length) (v := -1000000) s3 hb x3 (by omega) (s2_v1 s3 L.length (-1000000))
    rw [s2_g1 s3, Option.bind_some, s2_w1 s3 hl, Option.bind_some]
    generalize wI S3 (b + 2) L.length (-1000000) = S4 at *
    obtain ⟨S5, e5, x5, f5, a1, a2, a3⟩ := c_newItem f4.2.2.1 hb x4 ht h1 hl lv
    rw [e5, Option.bind_some]
    dsimp only
    rw [oZ_b, Option.bind_some]
    refine ⟨S5, rfl, x5, Ef_trans f3 (Ef_trans f4 f5), fun y => ?_⟩
    obtain ⟨yy, vv, dd, er⟩ := rdN_e y ht h1
    refine ⟨?_, ?_, fun _ => a3 y⟩
    · rw [a1, o4 1 (by decide), v3, er]
    · rw [a2, v4, er]; rfl
  have eN : ¬ (0 < L.length ∧ nxt tx q = 42) → rdE2 tx L.length lv q = rdN tx lv q := fun z => if_neg z
  by_cases c0 : L.length = 0
  · rw [if_pos (show nI L.length ≤ (0 : Int32) by rw [c0]; decide), eN (fun z => by omega)]
    exact newI S2 f12 x2 v2
  · rw [if_neg (show ¬ nI L.length ≤ (0 : Int32) from nI_ge (a := 0) (by omega) (by omega))]
    obtain ⟨S3, e3, x3, m3, p3⟩ := c_take x2 ht h1 42 (by decide)
    have f3 := Ef_53 (n := L.length) s2 hb m3
    have v3 : cI (S3.2 (b + 1)) L.length = nI lv := by rw [m3.2.1 _ (by omega)]; exact v2
    rw [e3, Option.bind_some]
    dsimp only
    by_cases c : nxt tx q = 42
    · rw [if_pos c] at x3
      rw [itp1 c]
      have eS : rdE2 tx L.length lv q = if 0 < nuC tx 3 (q + 1) ∧ nuV tx 3 (q + 1) < L.length then (true, q + 1 + nuC tx 3 (q + 1), (lv, some (nuV tx 3 (q + 1)), [], -1, 0, false)) else (false, q + 1, e0E lv) := if_pos ⟨by omega, c⟩
      obtain ⟨S4, e4, x4, f4, a4, b4⟩ := c_source f3.2.2.1 hb x3 ht (p3 c) hl
      rw [e4, Option.bind_some]
      dsimp only
      have ff := Ef_trans f12 (Ef_trans f3 f4)
      by_cases z : 0 < nuC tx 3 (q + 1) ∧ nuV tx 3 (q + 1) < L.length
      · rw [if_pos z] at x4 eS
        rw [if_pos z, eS]
        exact ⟨S4, rfl, x4, ff, fun _ => ⟨by rw [a4]; exact v3, b4 z, (fun w => by cases w)⟩⟩
      · rw [if_neg z] at x4 eS
        rw [if_neg z, eS]
        exact ⟨S4, rfl, x4, ff, fun w => by cases w⟩
    · rw [if_neg c] at x3
      rw [itp0 c, eN (fun z => c z.2)]
      exact newI S3 (Ef_trans f12 f3) x3 v3
def Eg (S S' : pS) (b : Nat) : Prop := S'.1 = S.1 ∧ (∀ q, q ≠ 53 → ¬ (b ≤ q ∧ q < b + 8) → S'.2 q = S.2 q) ∧ Sh S' b sp2
theorem Eg_trans {S1 S2 : pS} (h : Eg S S1 b) (h2 : Eg S1 S2 b) : Eg S S2 b := ⟨h2.1.trans h.1, fun q a c => (h2.2.1 q a c).trans (h.2.1 q a c), h2.2.2⟩
theorem Eg_Ef {S1 : pS} (h : Ef S S1 b n) : Eg S S1 b := ⟨h.1, fun q a c => h.2.1 q a (by omega), h.2.2.1⟩
theorem Eg_53 {S1 : pS} (hs : Sh S b sp2) (hb : 55 ≤ b) (h : M53 S S1) : Eg S S1 b := ⟨h.1, fun q a _ => h.2.1 q a, h.2.2 b sp2 hs (by decide) (by omega)⟩
theorem rowE_fr {S1 : pS} {j : Nat} {e : Ent} (h : rowE S b j e) (o : ∀ k, 1 ≤ k → k < 8 → S1.2 (b + k) = S.2 (b + k)) : rowE S1 b j e := by
  unfold rowE
  rw [o 1 (by omega) (by omega), o 2 (by omega) (by omega), o 3 (by omega) (by omega), o 4 (by omega) (by omega), o 5 (by omega) (by omega), o 6 (by omega) (by omega), o 7 (by omega) (by omega)]
  exact h
theorem RwsE_snoc {S1 : pS} {L : List Ent} {e : Ent} (hr : RwsE S b L) (hL : ELo L) (f : Ef S S1 b L.length) (he : rowE S1 b L.length e) : RwsE S1 b (L ++ [e]) := by
  intro j e' hj
  have hj2 := (List.getElem?_eq_some_iff.mp hj).1
  rw [List.length_append, List.length_singleton] at hj2
  by_cases z : j = L.length
  · subst z
    rw [List.getElem?_append_right (Nat.le_refl _), Nat.sub_self] at hj
    have : e = e' := by simpa using hj
    subst this
    exact he
  · rw [List.getElem?_append_left (by omega)] at hj
    exact Ef_row f (by omega) (hr j e' hj) (hL j e' hj).2.2.2.2.1
theorem c_rdO (ht : txOk tx) (hb : 55 ≤ b) : ∀ (n p : Nat) (L : List Ent) (S : pS), L.length + n = 40 → ELo L → p ≤ tx.length → Sh S b sp2 → XP S tx p → RwsE S b L → ∃ s' k S', k ≤ n ∧ Run (F_X2_read_13 b 53) ((1 : Int32), nI L.length, S) s' k ∧ Eg S S' b ∧ XP S' tx (rdO tx n p L).2.1 ∧
    ((F_X2_read_13 b 53 s' = some (.inr (.inl S')) ∧ (rdO tx n p L).1 = false) ∨ (F_X2_read_13 b 53 s' = some (.inr (.inr ((1 : Int32), S'))) ∧ (rdO tx n p L).1 = false) ∨ (F_X2_read_13 b 53 s' = some (.inr (.inr ((0 : Int32), S'))) ∧ (rdO tx n p L).1 = decide ((rdO tx n p L).2.1 = tx.length) ∧ RwsE S' b (rdO tx n p L).2.2 ∧ fI (S'.2 b) 8 = nI (rdO tx n p L).2.2.length)) := by
  intro n
  induction n with
  | zero =>
    intro p L S hl hL hp hs hx hr
    have ex : F_X2_read_13 b 53 ((1 : Int32), nI L.length, S) = some (.inr (.inr ((1 : Int32), S))) := by
      unfold F_X2_read_13
      dsimp only
      rw [if_neg (by decide), if_pos (show (40 : Int32) ≤ nI L.length by rw [show L.length = 40 by omega]; decide)]
    exact ⟨_, 0, S, Nat.le_refl _, Run_0, ⟨rfl, fun _ _ _ => rfl, hs⟩, hx, Or.inr (Or.inl ⟨ex, rfl⟩)⟩
  | succ n ih =>
    intro p L S hl hL hp hs hx hr
    obtain ⟨S1, e1, x1, f1, w1⟩ := c_entry hs hb hx ht hp (by omega) hr hL
    obtain ⟨h1, h2⟩ := rdE_ok (k := L.length) (most := mostL L) ht hp
    rw [rdO_s]
    have e0 : F_X2_read_13 b 53 ((1 : Int32), nI L.length, S) = (F_X2_readEntry S b 53 (nI L.length)).bind fun q5 => if ¬ q5.1 = 0 then ((oPI q5.2 b 2 8 (nI L.length + (1 : Int32))).bind fun S7 => (F_X7_take S7 53 (59 : Int32)).bind fun q9 => some (.inl (q9.1, nI L.length + (1 : Int32), q9.2))) else (some (.inr (.inl q5.2))) := by
      unfold F_X2_read_13
      dsimp only
      rw [if_neg (by decide), if_neg (ge40 (show L.length < 40 by omega))]
    rw [e1, Option.bind_some] at e0
    dsimp only at e0
    cases ok : (rdE tx L.length (mostL L) p).1
    · rw [ok] at e0
      rw [if_neg (show ¬ ¬ (if false = true then (1 : Int32) else 0) = 0 from fun z => z rfl)] at e0
      rw [if_neg (by decide)]
      exact ⟨_, 0, S1, by omega, Run_0, Eg_Ef f1, x1, Or.inl ⟨e0, rfl⟩⟩
    · rw [ok] at e0
      have s1 := f1.2.2.1
      rw [if_pos (show ¬ (if true = true then (1 : Int32) else 0) = 0 by decide), nI_1, s2_p8 s1, Option.bind_some] at e0
      have k2 := s2_k8 s1 s1 (nI (L.length + 1))
      have v2 := s2_v8 s1 (nI (L.length + 1))
      have o2 : ∀ q, q ≠ b → (wF S1 b 8 (.int (nI (L.length + 1)))).2 q = S1.2 q := fun q hq => wF_ne _ _ _ hq
      have n2 : (wF S1 b 8 (.int (nI (L.length + 1)))).1 = S1.1 := rfl
      generalize wF S1 b 8 (.int (nI (L.length + 1))) = S2 at *
      have x2 : XP S2 tx (rdE tx L.length (mostL L) p).2.1 := ⟨XT_fr x1.1 (by omega) (fun q q1 q2 => o2 q (by omega)), by rw [o2 53 (by omega)]; exact x1.2⟩
      obtain ⟨S3, e3, x3, m3, p3⟩ := c_take x2 ht h1 59 (by decide)
      have g2 : Eg S1 S2 b := ⟨n2, fun q _ c => o2 q (by omega), k2⟩
      have g3 := Eg_53 k2 hb m3
      have gg := Eg_trans (Eg_Ef f1) (Eg_trans g2 g3)
      rw [e3, Option.bind_some] at e0
      have rws3 : RwsE S3 b (L ++ [(rdE tx L.length (mostL L) p).2.2]) := fun j e hj => rowE_fr (RwsE_snoc hr hL f1 (w1 ok) j e hj) (fun k a c => by rw [m3.2.1 _ (by omega)]; exact o2 _ (by omega))
      have hlen : (L ++ [(rdE tx L.length (mostL L) p).2.2]).length = L.length + 1 := by rw [List.length_append]; rfl
      have h8 : fI (S3.2 b) 8 = nI (L.length + 1) := by rw [m3.2.1 b (by omega)]; exact v2
      rw [if_pos rfl]
      dsimp only at e0
      by_cases a : nxt tx (rdE tx L.length (mostL L) p).2.1 = 59
      · rw [if_pos a] at x3 e0
        rw [if_pos a]
        obtain ⟨s', k, S', k1, run, cg, xx, rest⟩ := ih _ (L ++ [(rdE tx L.length (mostL L) p).2.2]) S3 (by omega) (ELo_snoc hL (h2 ok).2) (p3 a) gg.2.2 x3 rws3
        rw [hlen] at run
        exact ⟨s', 1 + k, S', by omega, Run_t (Run_1 e0) run, Eg_trans gg cg, xx, rest⟩
      · rw [if_neg a] at x3 e0
        rw [if_neg a]
        have ex : F_X2_read_13 b 53 ((0 : Int32), nI (L.length + 1), S3) = some (.inr (.inr ((0 : Int32), S3))) := by
          unfold F_X2_read_13
          dsimp only
          rw [if_pos rfl]
        exact ⟨_, 1, S3, by omega, Run_1 e0, gg, x3, Or.inr (Or.inr ⟨ex, rfl, rws3, by rw [h8, hlen]⟩)⟩
theorem c_readO (ht : txOk tx) (hb : 55 ≤ b) (hs : Sh S b sp2) (h : XT S tx) : ∃ S', F_X2_read S b 53 = some (if (rdO tx 40 0 []).1 = true then 1 else 0, S') ∧ XP S' tx (rdO tx 40 0 []).2.1 ∧ Eg S S' b ∧ ((rdO tx 40 0 []).1 = true → RwsE S' b (rdO tx 40 0 []).2.2 ∧ fI (S'.2 b) 8 = nI (rdO tx 40 0 []).2.2.length) := by
  unfold F_X2_read
  have hl := ht.1
  obtain ⟨S1, e1, x1, m1⟩ := c_goto2 h 0
  have es : F_X7_start S 53 = some S1 := by
    unfold F_X7_start
    rw [s7_oF h.1, show oPI S 53 7 2 (0 : Int32) = _ from e1, Option.bind_some]
  have g1 := Eg_53 hs hb m1
  rw [s2_oF hs, es, Option.bind_some, s2_p8 g1.2.2, Option.bind_some]
  have k2 := s2_k8 g1.2.2 g1.2.2 0
  have o2 : ∀ q, q ≠ b → (wF S1 b 8 (.int 0)).2 q = S1.2 q := fun q hq => wF_ne _ _ _ hq
  have n2 : (wF S1 b 8 (.int 0)).1 = S1.1 := rfl
  generalize wF S1 b 8 (.int 0) = S2 at *
  have g2 : Eg S1 S2 b := ⟨n2, fun q _ c => o2 q (by omega), k2⟩
  have x2 : XP S2 tx 0 := ⟨XT_fr x1.1 (by omega) (fun q q1 q2 => o2 q (by omega)), by rw [o2 53 (by omega)]; exact x1.2⟩
  obtain ⟨s', k, S', k1, run, cg, xx, rest⟩ := c_rdO ht hb 40 0 [] S2 rfl (fun j e he => by simp at he) (Nat.zero_le _) k2 x2 (fun j e he => by simp at he)
  have hple := (rdO_ok ht 40 0 [] (Nat.zero_le _) (fun j e he => by simp at he)).1
  have gg := Eg_trans g1 (Eg_trans g2 cg)
  have eend : F_X7_isAtEnd S' 53 = some (if (rdO tx 40 0 []).2.1 = tx.length then 1 else 0) := by
    unfold F_X7_isAtEnd
    rw [s7_oF xx.1.1, s7_g2 xx.1.1, Option.bind_some, s7_g1 xx.1.1, Option.bind_some, xx.2, xx.1.2.1]
    by_cases c : (rdO tx 40 0 []).2.1 = tx.length
    · rw [if_neg (nI_nlt (by omega) (by omega)), if_pos c]
    · rw [if_pos (nI_lt (by omega) (by omega)), if_neg c]
  rcases rest with ⟨ex, er⟩ | ⟨ex, er⟩ | ⟨ex, er, rw', r8⟩
  · have ei : iter (F_X2_read_13 b 53) fu ((1 : Int32), (0 : Int32), S2) = _ := Run_end run (by omega) ex
    rw [ei, Option.bind_some, er]
    exact ⟨S', rfl, xx, gg, fun z => by cases z⟩
  · have ei : iter (F_X2_read_13 b 53) fu ((1 : Int32), (0 : Int32), S2) = _ := Run_end run (by omega) ex
    rw [ei, Option.bind_some]
    simp only [Sum.elim_inr]
    unfold F_X2_read_54
    rw [eend, Option.bind_some, er]
    refine ⟨S', ?_, xx, gg, fun z => by cases z⟩
    by_cases c : (rdO tx 40 0 []).2.1 = tx.length
    · rw [itp1 c, if_pos (show ¬ (1 : Int32) = 0 by decide)]; rfl
    · rw [itp0 c]; rfl
  · have ei : iter (F_X2_read_13 b 53) fu ((1 : Int32), (0 : Int32), S2) = _ := Run_end run (by omega) ex
    rw [ei, Option.bind_some]
    simp only [Sum.elim_inr]
    unfold F_X2_read_54
    rw [eend, Option.bind_some, er]
    refine ⟨S', ?_, xx, gg, fun _ => ⟨rw', r8⟩⟩
    by_cases c : (rdO tx 40 0 []).2.1 = tx.length
    · rw [itp1 c, if_neg (show ¬ ¬ (0 : Int32) = 0 from fun z => z rfl), decide_eq_true c]; rfl
    · rw [itp0 c, decide_eq_false c]; rfl
end EN3
