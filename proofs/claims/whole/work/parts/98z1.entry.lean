/-! one entry is read: the class -/
section ENT
variable {S : pS} {tx : List Int32} {p b n : Nat}
/-- level, source, name, day, value, done -/
abbrev Ent : Type := Nat × Option Nat × List Int32 × Int32 × Int32 × Bool
def ptC (tx : List Int32) : Nat → Nat → Nat
  | 0, _ => 0
  | n + 1, p => if nxt tx p = 46 then ptC tx n (p + 1) + 1 else 0
theorem ptC_le : ∀ (n p : Nat), p ≤ tx.length → p + ptC tx n p ≤ tx.length ∧ ptC tx n p ≤ n := by
  intro n
  induction n with
  | zero => intro p hp; exact ⟨hp, Nat.le_refl _⟩
  | succ n ih =>
    intro p hp
    show p + (if nxt tx p = 46 then ptC tx n (p + 1) + 1 else 0) ≤ _ ∧ (if nxt tx p = 46 then ptC tx n (p + 1) + 1 else 0) ≤ _
    by_cases c : nxt tx p = 46
    · rw [if_pos c]
      have := ih (p + 1) (nxt_in c (by decide))
      omega
    · rw [if_neg c]
      omega
def e0E (lv : Nat) : Ent := (lv, none, [], -1, 0, false)
/-- behind the name, the day, the value -/
def rdM3 (tx : List Int32) (lv : Nat) (nm : List Int32) (dy vl : Int32) (any : Bool) (p : Nat) : Bool × Nat × Ent := if any = true ∧ nxt tx p = 120 then (true, p + 1, (lv, none, nm, dy, vl, true)) else (true, p, (lv, none, nm, dy, vl, false))
def rdM2 (tx : List Int32) (lv : Nat) (nm : List Int32) (dy : Int32) (any : Bool) (p : Nat) : Bool × Nat × Ent :=
  if nxt tx p = 61 then (if 0 < nuC tx 3 (vaP tx (p + 1)) then rdM3 tx lv nm dy (vaV tx (p + 1)) true (vaP tx (p + 1) + nuC tx 3 (vaP tx (p + 1))) else (false, vaP tx (p + 1) + nuC tx 3 (vaP tx (p + 1)), e0E lv)) else rdM3 tx lv nm dy 0 any p
def rdM1 (tx : List Int32) (lv : Nat) (nm : List Int32) (p : Nat) : Bool × Nat × Ent :=
  if nxt tx p = 64 then (if 0 < nuC tx 4 (p + 1) then rdM2 tx lv nm (nI (nuV tx 4 (p + 1))) true (p + 1 + nuC tx 4 (p + 1)) else (false, p + 1 + nuC tx 4 (p + 1), e0E lv)) else rdM2 tx lv nm (-1) false p
def rdE2 (tx : List Int32) (k lv p : Nat) : Bool × Nat × Ent :=
  if 0 < k ∧ nxt tx p = 42 then (if 0 < nuC tx 3 (p + 1) ∧ nuV tx 3 (p + 1) < k then (true, p + 1 + nuC tx 3 (p + 1), (lv, some (nuV tx 3 (p + 1)), [], -1, 0, false)) else (false, p + 1, e0E lv))
  else if 0 < ltC tx 10 p then rdM1 tx lv (ltL tx p) (p + ltC tx 10 p) else (false, p, e0E lv)
def rdE (tx : List Int32) (k most p : Nat) : Bool × Nat × Ent := rdE2 tx k (ptC tx most p) (p + ptC tx most p)
/-! what is true of it -/
def eOk (k most : Nat) (e : Ent) : Prop := e.1 ≤ most ∧ (∀ v, e.2.1 = some v → v < k) ∧ (e.2.1 = none → 0 < e.2.2.1.length) ∧ e.2.2.1.length ≤ 10 ∧ (∀ x, x ∈ e.2.2.1 → 97 ≤ x ∧ x ≤ 122) ∧ ¬ e.2.2.2.1 < -1 ∧ ¬ 9999 < e.2.2.2.1 ∧ ¬ e.2.2.2.2.1 < -999 ∧ ¬ 999 < e.2.2.2.2.1
theorem rdM3_ok {lv : Nat} {nm : List Int32} {dy vl : Int32} {any : Bool} (hp : p ≤ tx.length) : p ≤ (rdM3 tx lv nm dy vl any p).2.1 ∧ (rdM3 tx lv nm dy vl any p).2.1 ≤ tx.length ∧ ∃ d, (rdM3 tx lv nm dy vl any p).2.2 = (lv, none, nm, dy, vl, d) := by
  unfold rdM3
  by_cases c : any = true ∧ nxt tx p = 120
  · rw [if_pos c]
    have := nxt_in c.2 (by decide)
    exact ⟨Nat.le_succ _, this, _, rfl⟩
  · rw [if_neg c]
    exact ⟨Nat.le_refl _, hp, _, rfl⟩
theorem vaV_bd (ht : txOk tx) (p : Nat) : ¬ vaV tx p < -999 ∧ ¬ 999 < vaV tx p := by
  have h := neg_n _ (nuV_lt ht (vaP tx p) 3 (by decide))
  unfold vaV
  by_cases c : nxt tx p = 45
  · rw [if_pos c]; exact ⟨h.2.2.1, h.2.2.2.1⟩
  · rw [if_neg c]; exact ⟨h.2.2.2.2.1, h.2.2.2.2.2⟩
theorem dyV_bd (ht : txOk tx) (p : Nat) : ¬ nI (nuV tx 4 p) < (-1 : Int32) ∧ ¬ (9999 : Int32) < nI (nuV tx 4 p) ∧ ¬ nI (nuV tx 4 p) = (-1000000 : Int32) := by
  have h := nuV_lt ht p 4 (by decide)
  have h0 := nI_pos (n := nuV tx 4 p) (by omega)
  refine ⟨fun z => h0 (Int32.lt_trans z (by decide)), fun z => ?_, fun z => h0 (by rw [z]; decide)⟩
  exact absurd ((nI_ltI (a := 9999) (b := nuV tx 4 p) (by decide) (by omega)).mp z) (by omega)
theorem vaP_ge (p : Nat) : p ≤ vaP tx p := by
  unfold vaP
  by_cases c : nxt tx p = 45
  · rw [if_pos c]; exact Nat.le_succ _
  · rw [if_neg c]; exact Nat.le_refl _
theorem rdM2_ok {lv : Nat} {nm : List Int32} {dy : Int32} {any : Bool} (ht : txOk tx) (hp : p ≤ tx.length) : p ≤ (rdM2 tx lv nm dy any p).2.1 ∧ (rdM2 tx lv nm dy any p).2.1 ≤ tx.length ∧ ((rdM2 tx lv nm dy any p).1 = true → ∃ v d, (rdM2 tx lv nm dy any p).2.2 = (lv, none, nm, dy, v, d) ∧ ¬ v < -999 ∧ ¬ 999 < v) := by
  unfold rdM2
  by_cases c : nxt tx p = 61
  · rw [if_pos c]
    have h1 := nxt_in c (by decide)
    have h2 := vaP_le (tx := tx) h1
    have h3 := vaP_ge (tx := tx) (p + 1)
    have h4 := nuC_le (tx := tx) (d := 3) h2
    by_cases z : 0 < nuC tx 3 (vaP tx (p + 1))
    · rw [if_pos z]
      obtain ⟨a1, a2, d, a3⟩ := rdM3_ok (lv := lv) (nm := nm) (dy := dy) (vl := vaV tx (p + 1)) (any := true) h4
      exact ⟨by omega, a2, fun _ => ⟨_, d, a3, vaV_bd ht _⟩⟩
    · rw [if_neg z]
      exact ⟨by show p ≤ vaP tx (p + 1) + _; omega, h4, fun z => by cases z⟩
  · rw [if_neg c]
    obtain ⟨a1, a2, d, a3⟩ := rdM3_ok (lv := lv) (nm := nm) (dy := dy) (vl := 0) (any := any) hp
    exact ⟨a1, a2, fun _ => ⟨_, d, a3, by decide, by decide⟩⟩
theorem rdM1_ok {lv : Nat} {nm : List Int32} (ht : txOk tx) (hp : p ≤ tx.length) : p ≤ (rdM1 tx lv nm p).2.1 ∧ (rdM1 tx lv nm p).2.1 ≤ tx.length ∧ ((rdM1 tx lv nm p).1 = true → ∃ y v d, (rdM1 tx lv nm p).2.2 = (lv, none, nm, y, v, d) ∧ ¬ y < -1 ∧ ¬ 9999 < y ∧ ¬ v < -999 ∧ ¬ 999 < v) := by
  unfold rdM1
  by_cases c : nxt tx p = 64
  · rw [if_pos c]
    have h1 := nxt_in c (by decide)
    have h4 := nuC_le (tx := tx) (d := 4) h1
    by_cases z : 0 < nuC tx 4 (p + 1)
    · rw [if_pos z]
      obtain ⟨a1, a2, a3⟩ := rdM2_ok (lv := lv) (nm := nm) (dy := nI (nuV tx 4 (p + 1))) (any := true) ht h4
      refine ⟨by omega, a2, fun y => ?_⟩
      obtain ⟨v, d, b1, b2, b3⟩ := a3 y
      exact ⟨_, v, d, b1, (dyV_bd ht _).1, (dyV_bd ht _).2.1, b2, b3⟩
    · rw [if_neg z]
      exact ⟨by show p ≤ p + 1 + _; omega, h4, fun z => by cases z⟩
  · rw [if_neg c]
    obtain ⟨a1, a2, a3⟩ := rdM2_ok (lv := lv) (nm := nm) (dy := -1) (any := false) ht hp
    refine ⟨a1, a2, fun y => ?_⟩
    obtain ⟨v, d, b1, b2, b3⟩ := a3 y
    exact ⟨_, v, d, b1, by decide, by decide, b2, b3⟩
theorem rdE2_ok {k lv : Nat} (ht : txOk tx) (hp : p ≤ tx.length) : (rdE2 tx k lv p).2.1 ≤ tx.length ∧ ((rdE2 tx k lv p).1 = true → p < (rdE2 tx k lv p).2.1 ∧ eOk k lv (rdE2 tx k lv p).2.2 ∧ (rdE2 tx k lv p).2.2.1 = lv) := by
  unfold rdE2
  by_cases c : 0 < k ∧ nxt tx p = 42
  · rw [if_pos c]
    have h1 := nxt_in c.2 (by decide)
    by_cases z : 0 < nuC tx 3 (p + 1) ∧ nuV tx 3 (p + 1) < k
    · rw [if_pos z]
      refine ⟨nuC_le h1, fun _ => ⟨by show p < p + 1 + _; omega, ⟨Nat.le_refl _, fun v hv => ?_, (fun w => by cases w), by show (0 : Nat) ≤ 10; omega, (fun x hx => by cases hx), by show ¬ (-1 : Int32) < -1; decide, by show ¬ (9999 : Int32) < -1; decide, by show ¬ (0 : Int32) < -999; decide, by show ¬ (999 : Int32) < 0; decide⟩, rfl⟩⟩
      have hv' : some (nuV tx 3 (p + 1)) = some v := hv
      cases hv'
      exact z.2
    · rw [if_neg z]
      exact ⟨h1, fun z => by cases z⟩
  · rw [if_neg c]
    by_cases z : 0 < ltC tx 10 p
    · rw [if_pos z]
      have hle := ltC_le (tx := tx) (n := 10) hp
      obtain ⟨a1, a2, a3⟩ := rdM1_ok (lv := lv) (nm := ltL tx p) ht hle
      refine ⟨a2, fun y => ?_⟩
      obtain ⟨dy, v, d, b1, b2, b3, b4, b5⟩ := a3 y
      rw [b1]
      refine ⟨by omega, ⟨Nat.le_refl _, (fun w hw => by cases hw), fun _ => ?_, ?_, fun x hx => ?_, b2, b3, b4, b5⟩, rfl⟩
      · show 0 < (ltL tx p).length
        rw [ltL_len hp]; exact z
      · show (ltL tx p).length ≤ 10
        rw [ltL_len hp]; exact (ltC_sp (tx := tx) 10 p).1
      · obtain ⟨k, hk, e⟩ := List.mem_iff_getElem.mp hx
        exact (ltL_get hp ((List.getElem?_eq_getElem hk).trans (congrArg some e))).2.2
    · rw [if_neg z]
      exact ⟨hp, fun z => by cases z⟩
theorem rdE_ok {k most : Nat} (ht : txOk tx) (hp : p ≤ tx.length) : (rdE tx k most p).2.1 ≤ tx.length ∧ ((rdE tx k most p).1 = true → p < (rdE tx k most p).2.1 ∧ eOk k most (rdE tx k most p).2.2) := by
  obtain ⟨h1, h2⟩ := ptC_le (tx := tx) most p hp
  obtain ⟨a1, a2⟩ := rdE2_ok (k := k) (lv := ptC tx most p) ht h1
  refine ⟨a1, fun y => ?_⟩
  obtain ⟨b1, b2, b3⟩ := a2 y
  exact ⟨by unfold rdE; omega, ⟨by unfold rdE; rw [b3]; exact h2, b2.2⟩⟩
/-! what stands of an entry -/
def srI (s : Option Nat) : Int32 := match s with
  | none => -1000000
  | some v => nI v
def rowE (S : pS) (b n : Nat) (e : Ent) : Prop := cI (S.2 (b + 1)) n = nI e.1 ∧ cI (S.2 (b + 2)) n = srI e.2.1 ∧ (e.2.1 = none → cI (S.2 (b + 4)) n = nI e.2.2.1.length ∧ (∀ (k : Nat) x, e.2.2.1[k]? = some x → cI (S.2 (b + 3)) (10 * n + k) = x) ∧ cI (S.2 (b + 5)) n = e.2.2.2.1 ∧ cI (S.2 (b + 6)) n = e.2.2.2.2.1 ∧ cI (S.2 (b + 7)) n = (if e.2.2.2.2.2 = true then 1 else 0))
def Ef (S S' : pS) (b n : Nat) : Prop := S'.1 = S.1 ∧ (∀ q, q ≠ 53 → ¬ (b + 1 ≤ q ∧ q < b + 8) → S'.2 q = S.2 q) ∧ Sh S' b sp2 ∧ (∀ k i, 1 ≤ k → k < 8 → k ≠ 3 → i < n → cI (S'.2 (b + k)) i = cI (S.2 (b + k)) i) ∧ ∀ i, i < 10 * n → cI (S'.2 (b + 3)) i = cI (S.2 (b + 3)) i
theorem Ef_refl (hs : Sh S b sp2) : Ef S S b n := ⟨rfl, fun _ _ _ => rfl, hs, fun _ _ _ _ _ _ => rfl, fun _ _ => rfl⟩
theorem Ef_trans {S1 S2 : pS} (h : Ef S S1 b n) (h2 : Ef S1 S2 b n) : Ef S S2 b n := ⟨h2.1.trans h.1, fun q x y => (h2.2.1 q x y).trans (h.2.1 q x y), h2.2.2.1, fun k i x y z w => (h2.2.2.2.1 k i x y z w).trans (h.2.2.2.1 k i x y z w), fun i x => (h2.2.2.2.2 i x).trans (h.2.2.2.2 i x)⟩
theorem Ef_53 {S1 : pS} (hs : Sh S b sp2) (hb : 55 ≤ b) (h : M53 S S1) : Ef S S1 b n := ⟨h.1, fun q a _ => h.2.1 q a, h.2.2 b sp2 hs (by decide) (by omega), fun k i _ _ _ _ => by rw [h.2.1 (b + k) (by omega)], fun i _ => by rw [h.2.1 (b + 3) (by omega)]⟩
theorem Ef_row {S1 : pS} {j : Nat} {e : Ent} (h : Ef S S1 b n) (hj : j < n) (hr : rowE S b j e) (hl : e.2.2.1.length ≤ 10) : rowE S1 b j e := by
  obtain ⟨r1, r2, r3⟩ := hr
  refine ⟨by rw [h.2.2.2.1 1 j (by omega) (by omega) (by omega) hj]; exact r1, by rw [h.2.2.2.1 2 j (by omega) (by omega) (by omega) hj]; exact r2, fun z => ?_⟩
  obtain ⟨r4, r5, r6, r7, r8⟩ := r3 z
  refine ⟨by rw [h.2.2.2.1 4 j (by omega) (by omega) (by omega) hj]; exact r4, fun k x hk => ?_, by rw [h.2.2.2.1 5 j (by omega) (by omega) (by omega) hj]; exact r6, by rw [h.2.2.2.1 6 j (by omega) (by omega) (by omega) hj]; exact r7, by rw [h.2.2.2.1 7 j (by omega) (by omega) (by omega) hj]; exact r8⟩
  have := (List.getElem?_eq_some_iff.mp hk).1
  rw [h.2.2.2.2 _ (by omega)]
  exact r5 k x hk
theorem e_wr {k : Nat} {v : Int32} (hs : Sh S b sp2) (hb : 55 ≤ b) (h : XP S tx p) (hk : 1 ≤ k ∧ k < 8 ∧ k ≠ 3) (hv : cI ((wI S (b + k) n v).2 (b + k)) = pu (cI (S.2 (b + k))) n v) : XP (wI S (b + k) n v) tx p ∧ Ef S (wI S (b + k) n v) b n ∧ cI ((wI S (b + k) n v).2 (b + k)) n = v ∧ ∀ j, j ≠ k → (wI S (b + k) n v).2 (b + j) = S.2 (b + j) := by
  refine ⟨XP_wI h (by omega) (by omega), ⟨rfl, fun q _ a => wI_ne _ _ _ (by omega), sh_wI hs _ _ _, fun k' i _ _ _ hi => ?_, fun i _ => ?_⟩, by rw [hv, pu_at], fun q hq => wI_ne _ _ _ (by omega)⟩
  · by_cases e : k' = k
    · subst e; rw [hv, pu_ne _ _ _ (by omega)]
    · rw [wI_ne _ _ _ (show b + k' ≠ b + k by omega)]
  · rw [wI_ne _ _ _ (show b + 3 ≠ b + k by omega)]
theorem c_pts {most : Nat} (ht : txOk tx) : ∀ (j l p : Nat) (S : pS), l + j = most → most < 100 → p ≤ tx.length → XP S tx p → ∃ s' k S', k ≤ j ∧ Run (F_X2_readEntry_9 b 53 (nI n) (nI most)) (nI l, S) s' k ∧ F_X2_readEntry_9 b 53 (nI n) (nI most) s' = some (.inr (nI (l + ptC tx j p), S')) ∧ XP S' tx (p + ptC tx j p) ∧ M53 S S' := by
  intro j
  induction j with
  | zero =>
    intro l p S hl hm hp hx
    have hl' : l = most := by omega
    subst hl'
    have ex : F_X2_readEntry_9 b 53 (nI n) (nI l) (nI l, S) = some (.inr (nI l, S)) := by
      unfold F_X2_readEntry_9
      rw [if_pos (Int32.le_refl _)]
    exact ⟨_, 0, S, Nat.le_refl _, Run_0, ex, hx, M53_refl S⟩
  | succ j ih =>
    intro l p S hl hm hp hx
    obtain ⟨S1, e1, x1, m1, p1⟩ := c_take hx ht hp 46 (by decide)
    have e0 : F_X2_readEntry_9 b 53 (nI n) (nI most) (nI l, S) = if (if nxt tx p = 46 then (1 : Int32) else 0) = 0 then some (.inr (nI l, S1)) else some (.inl (nI (l + 1), S1)) := by
      unfold F_X2_readEntry_9
      rw [if_neg (nI_ge (show l < most by omega) (by omega))]
      dsimp only
      rw [e1, Option.bind_some, nI_1]
    have eq : ptC tx (j + 1) p = if nxt tx p = 46 then ptC tx j (p + 1) + 1 else 0 := rfl
    rw [eq]
    by_cases c : nxt tx p = 46
    · rw [itp1 c] at e0
      rw [if_pos c] at x1 ⊢
      obtain ⟨s', k, S', k1, run, ex, x2, m2⟩ := ih (l + 1) (p + 1) S1 (by omega) hm (p1 c) x1
      refine ⟨s', 1 + k, S', by omega, Run_t (Run_1 e0) run, ?_, ?_, M53_trans m1 m2⟩
      · rw [ex, show l + 1 + ptC tx j (p + 1) = l + (ptC tx j (p + 1) + 1) by omega]
      · rw [show p + (ptC tx j (p + 1) + 1) = p + 1 + ptC tx j (p + 1) by omega]; exact x2
    · rw [itp0 c] at e0
      rw [if_neg c] at x1 ⊢
      exact ⟨_, 0, S1, Nat.zero_le _, Run_0, e0, x1, m1⟩
end ENT
