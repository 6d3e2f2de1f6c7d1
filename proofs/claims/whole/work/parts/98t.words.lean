/-! words, numbers; both sides -/
section WRD
variable {S : pS} {m : Nat} {A : As} {tx : List Int32} {p : Nat}
def isDg (x : Int32) : Bool := decide (48 ≤ x) && decide (x ≤ 57)
theorem isDg_iff (x : Int32) : isDg x = true ↔ 48 ≤ x ∧ x ≤ 57 := by
  unfold isDg
  rw [Bool.and_eq_true, decide_eq_true_eq, decide_eq_true_eq]
theorem isDg_f {x : Int32} (h : isDg x = false) : x < 48 ∨ (¬ x < 48 ∧ 57 < x) := by
  by_cases c : x < 48
  · exact Or.inl c
  · refine Or.inr ⟨c, ?_⟩
    rcases Int32.lt_or_le 57 x with z | z
    · exact z
    · rw [(isDg_iff x).mpr ⟨Int32.not_lt.mp c, z⟩] at h
      cases h
/-- how many digits stand at p, at most n -/
def dgC (tx : List Int32) : Nat → Nat → Nat
  | 0, _ => 0
  | n + 1, p => if isDg (nxt tx p) = true then dgC tx n (p + 1) + 1 else 0
theorem dgC_eq : ∀ k n p, k ≤ n → (∀ i, i < k → isDg (nxt tx (p + i)) = true) → (k = n ∨ isDg (nxt tx (p + k)) = false) → dgC tx n p = k := by
  intro k
  induction k with
  | zero =>
    intro n p _ _ h
    cases n with
    | zero => rfl
    | succ n =>
      rcases h with h | h
      · cases h
      · show (if isDg (nxt tx p) = true then _ else 0) = 0
        rw [Nat.add_zero] at h
        rw [h]; rfl
  | succ k ih =>
    intro n p hn h1 h2
    obtain ⟨n, rfl⟩ : ∃ n', n = n' + 1 := ⟨n - 1, by omega⟩
    show (if isDg (nxt tx p) = true then dgC tx n (p + 1) + 1 else 0) = k + 1
    rw [if_pos (show isDg (nxt tx p) = true from h1 0 (by omega)), ih n (p + 1) (by omega) (fun i hi => by
      have := h1 (i + 1) (by omega)
      rw [show p + 1 + i = p + (i + 1) by omega]; exact this) (by
      rcases h2 with z | z
      · exact Or.inl (by omega)
      · right; rw [show p + 1 + k = p + (k + 1) by omega]; exact z)]
theorem dgC_sp : ∀ n p, dgC tx n p ≤ n ∧ (∀ i, i < dgC tx n p → isDg (nxt tx (p + i)) = true) ∧ (dgC tx n p = n ∨ isDg (nxt tx (p + dgC tx n p)) = false) := by
  intro n
  induction n with
  | zero => intro p; exact ⟨Nat.le_refl _, fun i hi => absurd hi (Nat.not_lt_zero _), Or.inl rfl⟩
  | succ n ih =>
    intro p
    have e : dgC tx (n + 1) p = if isDg (nxt tx p) = true then dgC tx n (p + 1) + 1 else 0 := rfl
    rw [e]
    by_cases c : isDg (nxt tx p) = true
    · rw [if_pos c]
      obtain ⟨h1, h2, h3⟩ := ih (p + 1)
      refine ⟨by omega, fun i hi => ?_, ?_⟩
      · cases i with
        | zero => exact c
        | succ i => rw [show p + (i + 1) = p + 1 + i by omega]; exact h2 i (by omega)
      · rcases h3 with z | z
        · exact Or.inl (by omega)
        · right; rw [show p + (dgC tx n (p + 1) + 1) = p + 1 + dgC tx n (p + 1) by omega]; exact z
    · rw [if_neg c]
      refine ⟨Nat.zero_le _, fun i hi => absurd hi (Nat.not_lt_zero _), Or.inr ?_⟩
      rw [Nat.add_zero]
      exact Bool.eq_false_iff.mpr c
theorem dgC_le {n : Nat} (hp : p ≤ tx.length) : p + dgC tx n p ≤ tx.length := by
  obtain ⟨h1, h2, h3⟩ := dgC_sp (tx := tx) n p
  rcases Nat.lt_or_ge tx.length (p + dgC tx n p) with c | c
  · have := h2 (tx.length - p) (by omega)
    rw [show p + (tx.length - p) = tx.length by omega, nxt_ge (Nat.le_refl _)] at this
    exact absurd this (by decide)
  · exact c
/-- the value of digits -/
def dv (x : Int32) : Nat := x.toNatClampNeg - 48
def dgV (tx : List Int32) (p : Nat) : Nat → Nat
  | 0 => 0
  | k + 1 => 10 * dgV tx p k + dv (nxt tx (p + k))
theorem isDg_n (ht : txOk tx) {p : Nat} (h : isDg (nxt tx p) = true) : nxt tx p = nI (48 + dv (nxt tx p)) ∧ dv (nxt tx p) ≤ 9 := by
  obtain ⟨n, n1, n2, -⟩ := nxt_n ht p
  have h2 := (isDg_iff _).mp h
  rw [n2] at h2
  have a1 := (nI_leI (a := 48) (by decide) (by omega)).mp h2.1
  have a2 := (nI_leI (b := 57) (by omega) (by decide)).mp h2.2
  have e : dv (nxt tx p) = n - 48 := by
    unfold dv
    rw [n2, nI_clamp (by omega)]
  rw [e, show 48 + (n - 48) = n by omega]
  exact ⟨n2, by omega⟩
theorem dgV_lt (ht : txOk tx) (p : Nat) : ∀ k, k ≤ 4 → (∀ i, i < k → isDg (nxt tx (p + i)) = true) → dgV tx p k < 10 ^ k := by
  intro k
  induction k with
  | zero => intro _ _; show 0 < 1; omega
  | succ k ih =>
    intro hk h
    have h1 := ih (by omega) (fun i hi => h i (by omega))
    have h2 := (isDg_n ht (h k (by omega))).2
    show 10 * dgV tx p k + dv (nxt tx (p + k)) < 10 ^ (k + 1)
    rw [Nat.pow_succ]
    omega
/-- a number: how many digits, its value -/
def nuC (tx : List Int32) (d p : Nat) : Nat := if nxt tx p = 48 then 1 else dgC tx d p
def nuV (tx : List Int32) (d p : Nat) : Nat := if nxt tx p = 48 then 0 else dgV tx p (dgC tx d p)
/-- how much of a word stands at p -/
def stN (tx : List Int32) : List Int32 → Nat → Nat
  | [], _ => 0
  | c :: l, p => if nxt tx p = c then stN tx l (p + 1) + 1 else 0
theorem stN_sp : ∀ (l : List Int32) (p : Nat), stN tx l p ≤ l.length ∧ (∀ i x, i < stN tx l p → l[i]? = some x → nxt tx (p + i) = x) ∧ (stN tx l p = l.length ∨ ∃ x, l[stN tx l p]? = some x ∧ nxt tx (p + stN tx l p) ≠ x) := by
  intro l
  induction l with
  | nil => intro p; exact ⟨Nat.le_refl _, fun i x hi => absurd hi (Nat.not_lt_zero _), Or.inl rfl⟩
  | cons c l ih =>
    intro p
    have e : stN tx (c :: l) p = if nxt tx p = c then stN tx l (p + 1) + 1 else 0 := rfl
    rw [e]
    by_cases q : nxt tx p = c
    · rw [if_pos q]
      obtain ⟨h1, h2, h3⟩ := ih (p + 1)
      refine ⟨by rw [List.length_cons]; omega, fun i x hi hx => ?_, ?_⟩
      · cases i with
        | zero =>
          have : c = x := by simpa using hx
          rw [← this]; exact q
        | succ i =>
          rw [show p + (i + 1) = p + 1 + i by omega]
          exact h2 i x (by omega) (by simpa using hx)
      · rcases h3 with z | ⟨x, z1, z2⟩
        · exact Or.inl (by rw [List.length_cons]; omega)
        · right
          refine ⟨x, by simpa using z1, ?_⟩
          rw [show p + (stN tx l (p + 1) + 1) = p + 1 + stN tx l (p + 1) by omega]
          exact z2
    · rw [if_neg q]
      refine ⟨Nat.zero_le _, fun i x hi => absurd hi (Nat.not_lt_zero _), Or.inr ⟨c, rfl, q⟩⟩
theorem stN_le (l : List Int32) (h0 : ∀ x, x ∈ l → x ≠ 0) (hp : p ≤ tx.length) : p + stN tx l p ≤ tx.length := by
  obtain ⟨h1, h2, h3⟩ := stN_sp (tx := tx) l p
  rcases Nat.lt_or_ge tx.length (p + stN tx l p) with c | c
  · have hi : tx.length - p < l.length := by omega
    have := h2 (tx.length - p) _ (by omega) (List.getElem?_eq_getElem hi)
    rw [show p + (tx.length - p) = tx.length by omega, nxt_ge (Nat.le_refl _)] at this
    exact absurd this.symm (h0 _ (List.getElem_mem hi))
  · exact c
theorem stN_eq {l : List Int32} {k : Nat} (hk : k ≤ l.length) (h2 : ∀ i x, i < k → l[i]? = some x → nxt tx (p + i) = x) (h3 : k = l.length ∨ ∃ x, l[k]? = some x ∧ nxt tx (p + k) ≠ x) : stN tx l p = k := by
  obtain ⟨g1, g2, g3⟩ := stN_sp (tx := tx) l p
  rcases Nat.lt_trichotomy (stN tx l p) k with c | c | c
  · rcases g3 with z | ⟨x, z1, z2⟩
    · omega
    · exact absurd (h2 _ x c z1) z2
  · exact c
  · rcases h3 with z | ⟨x, z1, z2⟩
    · omega
    · exact absurd (g2 _ x c z1) z2
/-! the class -/
/-- all but the reader is as it was -/
def M53 (S S' : pS) : Prop := S'.1 = S.1 ∧ (∀ q, q ≠ 53 → S'.2 q = S.2 q) ∧ ∀ b sp, Sh S b sp → shT sp = true → b ≠ 53 → Sh S' b sp
theorem M53_refl (S : pS) : M53 S S := ⟨rfl, fun _ _ => rfl, fun _ _ h _ _ => h⟩
theorem M53_trans {S S1 S2 : pS} (h : M53 S S1) (h2 : M53 S1 S2) : M53 S S2 := ⟨h2.1.trans h.1, fun q hq => (h2.2.1 q hq).trans (h.2.1 q hq), fun b sp a1 a2 a3 => h2.2.2 b sp (h.2.2 b sp a1 a2 a3) a2 a3⟩
theorem c_goto2 (h : XT S tx) (p : Nat) : ∃ S', oPI S 53 7 2 (nI p) = some S' ∧ XP S' tx p ∧ M53 S S' := by
  obtain ⟨e, x⟩ := c_goto h p
  exact ⟨_, e, x, rfl, fun q hq => wF_ne _ _ _ hq, fun b sp hb hs hn => sh_wF hb hs hn _ _⟩
theorem c_take (h : XP S tx p) (ht : txOk tx) (hp : p ≤ tx.length) (x : Int32) (hx : x ≠ 0) : ∃ S', F_X7_take S 53 x = some (if nxt tx p = x then 1 else 0, S') ∧ XP S' tx (if nxt tx p = x then p + 1 else p) ∧ M53 S S' ∧ (nxt tx p = x → p + 1 ≤ tx.length) := by
  have hl := ht.1
  unfold F_X7_take
  rw [s7_oF h.1.1, c_next h ht (by omega), Option.bind_some]
  by_cases c : nxt tx p = x
  · obtain ⟨S1, e1, x1, m1⟩ := c_goto2 h.1 (p + 1)
    rw [if_pos c, if_pos c, if_pos c, s7_g2 h.1.1, Option.bind_some, h.2, nI_1, e1, Option.bind_some]
    refine ⟨S1, rfl, x1, m1, fun _ => ?_⟩
    rcases Nat.lt_or_ge p tx.length with z | z
    · exact z
    · rw [nxt_ge z] at c
      exact absurd c.symm hx
  · rw [if_neg c, if_neg c, if_neg c]
    exact ⟨S, rfl, h, M53_refl S, fun z => absurd z c⟩
theorem c_takeWord {a : Nat} {l : List Int32} (h : XP S tx p) (ht : txOk tx) (hp : p ≤ tx.length) (h0 : ∀ x, x ∈ l → x ≠ 0) (hl : l.length ≤ 10) (el : oLen a = some (nI l.length)) (ec : ∀ (i : Nat) x, l[i]? = some x → oChr a (nI i) = some x) : ∃ S', F_X7_takeWord S 53 a = some (if stN tx l p = l.length then 1 else 0, S') ∧ XP S' tx (p + stN tx l p) ∧ M53 S S' := by
  unfold F_X7_takeWord
  have hle := stN_le (p := p) l h0 hp
  obtain ⟨r, e, hr⟩ := iter_fu (F := F_X7_takeWord_2 53 a) (s := ((0 : Int32), S)) (fun k s => s.1 = nI k ∧ (∀ i x, i < k → l[i]? = some x → nxt tx (p + i) = x) ∧ p + k ≤ tx.length ∧ XP s.2 tx (p + k) ∧ M53 S s.2)
    (P := fun r => ∃ S', (r = if stN tx l p = l.length then .inr S' else .inl S') ∧ XP S' tx (p + stN tx l p) ∧ M53 S S') l.length (by omega) ⟨rfl, fun i x hi => absurd hi (Nat.not_lt_zero _), hp, h, M53_refl S⟩
    (by
      rintro ⟨b, S1⟩ ⟨h1, h2, h3, h4, h5⟩
      dsimp only at h1 h2 h3 h4 h5
      subst h1
      have e1 : stN tx l p = l.length := stN_eq (Nat.le_refl _) h2 (Or.inl rfl)
      unfold F_X7_takeWord_2
      rw [el, Option.bind_some, if_pos (Int32.le_refl _)]
      refine ⟨_, rfl, S1, by rw [if_pos e1], by rw [e1]; exact h4, h5⟩)
    (by
      rintro k ⟨b, S1⟩ hk ⟨h1, h2, h3, h4, h5⟩
      dsimp only at h1 h2 h3 h4 h5
      subst h1
      have ex : l[k]? = some l[k] := List.getElem?_eq_getElem hk
      obtain ⟨S2, e2, x2, m2, p2⟩ := c_take h4 ht h3 l[k] (h0 _ (List.getElem_mem hk))
      unfold F_X7_takeWord_2
      rw [el, Option.bind_some, if_neg (nI_ge hk (by omega))]
      dsimp only
      rw [ec k _ ex, Option.bind_some, e2, Option.bind_some]
      by_cases c : nxt tx (p + k) = l[k]
      · rw [if_pos c] at x2
        rw [itp5 c, nI_1]
        refine ⟨_, rfl, rfl, fun i x hi hx => ?_, p2 c, x2, M53_trans h5 m2⟩
        rcases Nat.lt_succ_iff_lt_or_eq.mp hi with z | z
        · exact h2 i x z hx
        · rw [z] at hx ⊢
          rw [ex] at hx
          cases hx
          exact c
      · rw [if_neg c] at x2
        have e1 : stN tx l p = k := stN_eq (by omega) h2 (Or.inr ⟨_, ex, c⟩)
        rw [itp4 c]
        refine ⟨_, rfl, S2, by rw [if_neg (show ¬ stN tx l p = l.length by omega)], by rw [e1]; exact x2, M53_trans h5 m2⟩)
  rw [s7_oF h.1.1, e, Option.bind_some]
  obtain ⟨S', rfl, x', m'⟩ := hr
  by_cases c : stN tx l p = l.length
  · rw [if_pos c, if_pos c]; exact ⟨S', rfl, x', m'⟩
  · rw [if_neg c, if_neg c]; exact ⟨S', rfl, x', m'⟩
theorem c_takeNumber {d : Nat} (h : XP S tx p) (ht : txOk tx) (hp : p ≤ tx.length) (hd : d ≤ 4) (hd1 : 0 < d) : ∃ S', F_X7_takeNumber S 53 (nI d) = some (if 0 < nuC tx d p then nI (nuV tx d p) else -1000000, S') ∧ XP S' tx (p + nuC tx d p) ∧ M53 S S' ∧ p + nuC tx d p ≤ tx.length := by
  have hl := ht.1
  unfold F_X7_takeNumber nuC nuV
  obtain ⟨S1, e1, x1, m1, p1⟩ := c_take h ht hp 48 (by decide)
  rw [s7_oF h.1.1, e1, Option.bind_some]
  dsimp only
  by_cases c : nxt tx p = 48
  · rw [if_pos c] at x1
    rw [itp1 c, if_pos c, if_pos c, if_pos (by decide)]
    exact ⟨S1, rfl, x1, m1, p1 c⟩
  · rw [if_neg c] at x1
    rw [itp0 c, if_neg c, if_neg c]
    have hle := dgC_le (n := d) hp
    obtain ⟨r, e, hr⟩ := iter_fu (F := F_X7_takeNumber_15 53 (nI d)) (s := ((0 : Int32), (0 : Int32), S1)) (fun k s => s.1 = nI (dgV tx p k) ∧ s.2.1 = nI k ∧ (∀ i, i < k → isDg (nxt tx (p + i)) = true) ∧ XP s.2.2 tx (p + k) ∧ M53 S s.2.2)
      (P := fun r => ∃ S', r = (nI (dgV tx p (dgC tx d p)), nI (dgC tx d p), S') ∧ XP S' tx (p + dgC tx d p) ∧ M53 S S') d (by omega) ⟨rfl, rfl, fun i hi => absurd hi (Nat.not_lt_zero _), x1, m1⟩
      (by
        rintro ⟨b, b2, S2⟩ ⟨h1, h2, h3, h4, h5⟩
        dsimp only at h1 h2 h3 h4 h5
        subst h1 h2
        have ek : dgC tx d p = d := dgC_eq d d p (Nat.le_refl _) h3 (Or.inl rfl)
        unfold F_X7_takeNumber_15
        dsimp only
        rw [if_pos (Int32.le_refl _), ek]
        exact ⟨_, rfl, S2, rfl, h4, h5⟩)
      (by
        rintro k ⟨b, b2, S2⟩ hk ⟨h1, h2, h3, h4, h5⟩
        dsimp only at h1 h2 h3 h4 h5
        subst h1 h2
        have hpk : p + k ≤ tx.length := by
          rcases Nat.lt_or_ge tx.length (p + k) with c | c
          · have := h3 (tx.length - p) (by omega)
            rw [show p + (tx.length - p) = tx.length by omega, nxt_ge (Nat.le_refl _)] at this
            exact absurd this (by decide)
          · exact c
        unfold F_X7_takeNumber_15
        dsimp only
        rw [if_neg (nI_ge hk (by omega)), c_next h4 ht (by omega), Option.bind_some, Option.bind_some, Option.bind_some]
        cases q : isDg (nxt tx (p + k))
        · have ek : dgC tx d p = k := dgC_eq k d p (by omega) h3 (Or.inr q)
          rw [ek]
          rcases isDg_f q with z | ⟨z, w⟩
          · rw [if_pos z]; exact ⟨_, rfl, S2, rfl, h4, h5⟩
          · rw [if_neg z, if_pos w]; exact ⟨_, rfl, S2, rfl, h4, h5⟩
        · have hq := (isDg_iff _).mp q
          obtain ⟨n1, n2⟩ := isDg_n ht q
          obtain ⟨S3, e3, x3, m3⟩ := c_goto2 h4.1 (p + k + 1)
          rw [if_neg (Int32.not_lt.mpr hq.1), if_neg (Int32.not_lt.mpr hq.2), s7_g2 h4.1.1, Option.bind_some, h4.2, nI_1, nI_1, e3, Option.bind_some]
          refine ⟨_, rfl, ?_, rfl, fun i hi => ?_, x3, M53_trans h5 m3⟩
          · show nI (dgV tx p k) * 10 + (nxt tx (p + k) - 48) = nI (10 * dgV tx p k + dv (nxt tx (p + k)))
            have e48 : (48 : Int32) = nI 48 := rfl
            rw [n1, e48, pk_sub (by omega), Nat.add_sub_cancel_left, li_10, pk_mul, nI_add, Nat.mul_comm, ← n1]
          · rcases Nat.lt_succ_iff_lt_or_eq.mp hi with z | z
            · exact h3 i z
            · rw [z]; exact q)
    obtain ⟨S2, rfl, x2, m2⟩ := hr
    rw [e, Option.bind_some]
    unfold F_X7_takeNumber_67
    dsimp only
    by_cases z : dgC tx d p = 0
    · rw [if_neg (show ¬ ¬ nI (dgC tx d p) = 0 from fun w => w (by rw [z]; rfl)), if_neg (by omega)]
      exact ⟨S2, rfl, x2, m2, hle⟩
    · rw [if_pos (nI_n0 z (by omega)), if_pos (by omega)]
      exact ⟨S2, rfl, x2, m2, hle⟩
/-- a value: where it ends, what it is -/
def vaP (tx : List Int32) (p : Nat) : Nat := if nxt tx p = 45 then p + 1 else p
def vaV (tx : List Int32) (p : Nat) : Int32 := if nxt tx p = 45 then -nI (nuV tx 3 (vaP tx p)) else nI (nuV tx 3 (vaP tx p))
theorem nuV_lt (ht : txOk tx) (p d : Nat) (hd : d ≤ 4) : nuV tx d p < 10 ^ d := by
  unfold nuV
  have hd0 : 0 < 10 ^ d := Nat.pow_pos (by decide)
  by_cases c : nxt tx p = 48
  · rw [if_pos c]; exact hd0
  · rw [if_neg c]
    obtain ⟨h1, h2, -⟩ := dgC_sp (tx := tx) d p
    have := dgV_lt ht p (dgC tx d p) (by omega) h2
    exact Nat.lt_of_lt_of_le this (Nat.pow_le_pow_right (by decide) h1)
theorem neg_n : ∀ n, n < 1000 → ¬ nI n = (-1000000 : Int32) ∧ ¬ -nI n = (-1000000 : Int32) ∧ ¬ -nI n < -999 ∧ ¬ 999 < -nI n ∧ ¬ nI n < -999 ∧ ¬ 999 < nI n := by decide +kernel
theorem c_takeValue (h : XP S tx p) (ht : txOk tx) (hp : p ≤ tx.length) : ∃ S', F_X7_takeValue S 53 = some (if 0 < nuC tx 3 (vaP tx p) then vaV tx p else -1000000, S') ∧ XP S' tx (vaP tx p + nuC tx 3 (vaP tx p)) ∧ M53 S S' ∧ vaP tx p + nuC tx 3 (vaP tx p) ≤ tx.length := by
  unfold F_X7_takeValue vaV
  obtain ⟨S1, e1, x1, m1, p1⟩ := c_take h ht hp 45 (by decide)
  have x1' : XP S1 tx (vaP tx p) := x1
  have hp1 : vaP tx p ≤ tx.length := by
    unfold vaP
    by_cases c : nxt tx p = 45
    · rw [if_pos c]; exact p1 c
    · rw [if_neg c]; exact hp
  obtain ⟨S2, e2, x2, m2, p2⟩ := c_takeNumber (d := 3) x1' ht hp1 (by decide) (by decide)
  have e2' : F_X7_takeNumber S1 53 (3 : Int32) = _ := e2
  have hv := neg_n _ (nuV_lt ht (vaP tx p) 3 (by decide))
  rw [s7_oF h.1.1, e1, Option.bind_some]
  dsimp only
  rw [e2', Option.bind_some]
  dsimp only
  refine ⟨S2, ?_, x2, M53_trans m1 m2, p2⟩
  by_cases c : nxt tx p = 45
  · rw [itp1 c, if_pos c]
    by_cases z : 0 < nuC tx 3 (vaP tx p)
    · rw [if_pos z, if_neg hv.1, if_pos z]
    · rw [if_neg z, if_pos rfl, if_neg z]
  · rw [itp0 c, if_neg c]
/-! the reference -/
theorem r_skips {g : Bool} (hs : Sh S m sp10) (h : RP S m tx p g) (ht : txOk tx) (hp : p ≤ tx.length) (x : Int32) (hx : 32 ≤ x) : ∃ S', F_X10_skips S m x = some (if g = true ∧ nxt tx p = x then 1 else 0, S') ∧ MR S S' m [] [21] ∧ RP S' m tx (if g = true ∧ nxt tx p = x then p + 1 else p) g := by
  have hl := ht.1
  unfold F_X10_skips F_X10_skips_19 F_X10_skips_20
  rw [s10_oF hs, s10_g23 hs, Option.bind_some, h.2.2.1]
  have go : ∀ b : Bool, ∃ S', F_X10_skips_35 S (if b = true then 1 else 0) m (nI p) (if b = true then 1 else 0) = some (if b = true then 1 else 0, S') ∧ MR S S' m [] [21] ∧ RP S' m tx (if b = true then p + 1 else p) g := by
    intro b
    unfold F_X10_skips_35
    have e : nI p + (if b = true then (1 : Int32) else 0) = nI (if b = true then p + 1 else p) := by
      cases b
      · exact Int32.add_zero _
      · exact nI_1 p
    obtain ⟨S', e1, m1, r1⟩ := RP_p hs h (if b = true then p + 1 else p)
    rw [e, e1, Option.bind_some, oZ_b, Option.bind_some]
    exact ⟨S', rfl, m1, r1⟩
  cases g with
  | false =>
    rw [ite0 rfl, s10_g21 hs, Option.bind_some, h.1, if_pos rfl, if_neg (fun z => by cases z.1), if_neg (fun z => by cases z.1)]
    exact go false
  | true =>
    rw [ite1 rfl, r_here hs h ht (by omega), Option.bind_some]
    by_cases c : nxt tx p = x
    · rw [if_neg (show ¬ ¬ here tx p = x from fun w => w ((here_eq ht p hx).mpr c)), s10_g21 hs, Option.bind_some, h.1, if_neg (by decide), if_pos ⟨rfl, c⟩, if_pos ⟨rfl, c⟩]
      exact go true
    · rw [if_pos (show ¬ here tx p = x from fun w => c ((here_eq ht p hx).mp w)), s10_g21 hs, Option.bind_some, h.1, if_pos rfl, if_neg (fun z => c z.2), if_neg (fun z => c z.2)]
      exact go false
theorem r_stands {g : Bool} {a : Nat} {l : List Int32} (hs : Sh S m sp10) (h : RP S m tx p g) (ht : txOk tx) (hp : p ≤ tx.length) (h0 : ∀ x, x ∈ l → x ≠ 0) (hl : l.length ≤ 10) (el : oLen a = some (nI l.length)) (ec : ∀ (i : Nat) x, l[i]? = some x → oChr a (nI i) = some x) : F_X10_stands S m a = some (nI (stN tx l p)) := by
  have hl80 := ht.1
  unfold F_X10_stands
  obtain ⟨r, e, hr⟩ := iter_fu (F := F_X10_stands_2 m a S) (s := (0 : Int32)) (fun k s => s = nI k ∧ (∀ i x, i < k → l[i]? = some x → nxt tx (p + i) = x)) (P := fun r => r = nI (stN tx l p)) l.length (by omega) ⟨rfl, fun i x hi => absurd hi (Nat.not_lt_zero _)⟩
    (by
      rintro s ⟨rfl, h2⟩
      have e1 : stN tx l p = l.length := stN_eq (Nat.le_refl _) h2 (Or.inl rfl)
      unfold F_X10_stands_2
      rw [el, Option.bind_some, if_pos (Int32.le_refl _), e1]
      exact ⟨_, rfl, rfl⟩)
    (by
      rintro k s hk ⟨rfl, h2⟩
      have ex : l[k]? = some l[k] := List.getElem?_eq_getElem hk
      have hx0 := h0 _ (List.getElem_mem hk)
      unfold F_X10_stands_2
      rw [el, Option.bind_some, if_neg (nI_ge hk (by omega)), s10_g21 hs, Option.bind_some, h.1, s10_g22 hs, Option.bind_some, h.2.1, nI_add]
      by_cases c : p + k < tx.length
      · rw [if_neg (nI_ge c (by omega)), s10_g9 hs, Option.bind_some, Option.bind_some, nI_add, s10_r9 hs (by omega), Option.bind_some, h.2.2.2 _ _ (nxt_lt c), ec k _ ex, Option.bind_some]
        by_cases d : nxt tx (p + k) = l[k]
        · rw [if_neg (fun w => w d), nI_1]
          refine ⟨_, rfl, rfl, fun i x hi hx => ?_⟩
          rcases Nat.lt_succ_iff_lt_or_eq.mp hi with z | z
          · exact h2 i x z hx
          · rw [z] at hx ⊢
            rw [ex] at hx
            cases hx
            exact d
        · have e1 : stN tx l p = k := stN_eq (by omega) h2 (Or.inr ⟨_, ex, d⟩)
          rw [if_pos d, e1]
          exact ⟨_, rfl, rfl⟩
      · have e1 : stN tx l p = k := stN_eq (by omega) h2 (Or.inr ⟨_, ex, fun w => hx0 (by rw [← w, nxt_ge (by omega)])⟩)
        rw [if_pos (nI_le (by omega) (by omega)), e1]
        exact ⟨_, rfl, rfl⟩)
  rw [s10_oF hs, e, Option.bind_some, hr]
theorem here_dg (ht : txOk tx) (p : Nat) : (¬ here tx p < 48 ∧ ¬ 57 < here tx p) ↔ isDg (nxt tx p) = true := by
  rw [isDg_iff]
  unfold here
  by_cases c : p < tx.length
  · rw [if_pos c, Int32.not_lt, Int32.not_lt]
  · rw [if_neg c, nxt_ge (by omega)]
    exact ⟨fun z => absurd (by decide) z.1, fun z => absurd z.1 (by decide)⟩
theorem here_dgv {p : Nat} (h : isDg (nxt tx p) = true) : here tx p = nxt tx p := by
  unfold here
  by_cases c : p < tx.length
  · rw [if_pos c]
  · rw [nxt_ge (by omega)] at h
    exact absurd h (by decide)
theorem nuC_pos (d : Nat) (hd : 0 < d) : 0 < nuC tx d p ↔ isDg (nxt tx p) = true := by
  obtain ⟨d, rfl⟩ : ∃ d', d = d' + 1 := ⟨d - 1, by omega⟩
  unfold nuC
  by_cases c : nxt tx p = 48
  · rw [if_pos c, c]
    exact ⟨fun _ => by decide, fun _ => by decide⟩
  · rw [if_neg c]
    show 0 < (if isDg (nxt tx p) = true then dgC tx d (p + 1) + 1 else 0) ↔ _
    by_cases z : isDg (nxt tx p) = true
    · rw [if_pos z]
      exact ⟨fun _ => z, fun _ => Nat.succ_pos _⟩
    · rw [if_neg z]
      exact ⟨fun w => absurd w (Nat.not_lt_zero _), fun w => absurd w z⟩
theorem r_number {g : Bool} {d : Nat} (hs : Sh S m sp10) (h : RP S m tx p g) (ht : txOk tx) (hp : p ≤ tx.length) (hd : d ≤ 4) (hd1 : 0 < d) : ∃ S' v, F_X10_number S m (nI d) = some (v, S') ∧ MR S S' m [] [21, 23] ∧ RP S' m tx (if g = true then p + nuC tx d p else p) (g && decide (0 < nuC tx d p)) ∧ (g = true → 0 < nuC tx d p → v = nI (nuV tx d p)) := by
  have hl := ht.1
  unfold F_X10_number F_X10_number_28
  rw [s10_oF hs, s10_g23 hs, Option.bind_some, h.2.2.1]
  have bad : (g && decide (0 < nuC tx d p)) = false → (if g = true then p + nuC tx d p else p) = p → ∃ S' v, F_X10_number_29 S m (nI d) (0 : Int32) m (0 : Int32) = some (v, S') ∧ MR S S' m [] [21, 23] ∧ RP S' m tx p false := by
    intro _ _
    unfold F_X10_number_29
    obtain ⟨S1, e1, m1, r1⟩ := RP_g hs h false
    have ex : F_X10_number_34 m (nI d) ((0 : Int32), (0 : Int32), S1) = some (.inr ((0 : Int32), S1)) := by
      unfold F_X10_number_34
      dsimp only
      rw [if_neg (show ¬ nI d ≤ (0 : Int32) from nI_ge (a := 0) hd1 (by omega)), s10_g23 m1.1, Option.bind_some, r1.2.2.1, ite0 rfl]
    rw [show oPZ S m 10 23 (0 : Int32) = some S1 from e1, Option.bind_some, Run_end Run_0 (by decide) ex, Option.bind_some]
    exact ⟨S1, _, rfl, MR_sub m1 (by decide) (by decide), r1⟩
  cases g with
  | false =>
    obtain ⟨S', v, a1, a2, a3⟩ := bad rfl rfl
    rw [ite0 rfl, a1]
    exact ⟨S', v, rfl, a2, a3, fun z => by cases z⟩
  | true =>
    rw [ite1 rfl, r_here hs h ht (by omega), Option.bind_some, in_eq, Option.bind_some]
    cases q : isDg (nxt tx p)
    · have hno : ¬ 0 < nuC tx d p := fun z => by rw [(nuC_pos d hd1).mp z] at q; cases q
      have h0 : nuC tx d p = 0 := by omega
      obtain ⟨S', v, a1, a2, a3⟩ := bad (by rw [decide_eq_false hno]; rfl) (by rw [h0]; rfl)
      rw [itp0 (fun z => by rw [(here_dg ht _).mp z] at q; cases q), a1]
      refine ⟨S', v, rfl, a2, ?_, fun _ z => absurd z hno⟩
      rw [decide_eq_false hno, h0]
      exact a3
    · have hyes := (nuC_pos (tx := tx) (p := p) d hd1).mpr q
      rw [itp1 ((here_dg ht _).mpr q)]
      unfold F_X10_number_29
      obtain ⟨S1, e1, m1, r1⟩ := RP_g hs h true
      rw [show oPZ S m 10 23 (1 : Int32) = some S1 from e1, Option.bind_some]
      -- one digit is taken
      have step : ∀ (S2 : pS) (k : Nat), MR S S2 m [] [21, 23] → RP S2 m tx (p + k) true → isDg (nxt tx (p + k)) = true → p + k < 80 → ∃ S3, F_X10_number_68 m (nI d) S2 (nI (dgV tx p k)) (nI k) = some (.inl (nI (dgV tx p (k + 1)), nI (k + 1), S3)) ∧ MR S S3 m [] [21, 23] ∧ RP S3 m tx (p + (k + 1)) true := by
        intro S2 k m2 r2 q2 h80
        unfold F_X10_number_68
        obtain ⟨n1, n2⟩ := isDg_n ht q2
        obtain ⟨S3, e3, m3, r3⟩ := RP_p m2.1 r2 (p + k + 1)
        rw [r_here m2.1 r2 ht (by omega), Option.bind_some, here_dgv q2, s10_g21 m2.1, Option.bind_some, r2.1, nI_1, nI_1, e3, Option.bind_some]
        have e48 : (48 : Int32) = nI 48 := rfl
        have ev : ((10 : Int32) * nI (dgV tx p k) + nxt tx (p + k)) - 48 = nI (dgV tx p (k + 1)) := by
          show _ = nI (10 * dgV tx p k + dv (nxt tx (p + k)))
          rw [li_10, pk_mul]
          generalize dv (nxt tx (p + k)) = w at *
          rw [n1, e48, nI_add, pk_sub (by omega), show 10 * dgV tx p k + (48 + w) - 48 = 10 * dgV tx p k + w by omega]
        rw [ev]
        exact ⟨S3, rfl, MR_trans m2 (MR_sub m3 (by decide) (by decide)), r3⟩
      have hlt : ∀ k, isDg (nxt tx (p + k)) = true → p + k < 80 := by
        intro k q2
        rcases Nat.lt_or_ge (p + k) tx.length with c | c
        · omega
        · rw [nxt_ge c] at q2; exact absurd q2 (by decide)
      obtain ⟨r, e, hr⟩ := iter_fu (F := F_X10_number_34 m (nI d)) (s := ((0 : Int32), (0 : Int32), S1)) (fun k s => s.1 = nI (dgV tx p k) ∧ s.2.1 = nI k ∧ (∀ i, i < k → isDg (nxt tx (p + i)) = true) ∧ (nxt tx p = 48 → k ≤ 1) ∧ RP s.2.2 m tx (p + k) true ∧ MR S s.2.2 m [] [21, 23])
        (P := fun r => ∃ S', r = (nI (nuV tx d p), S') ∧ RP S' m tx (p + nuC tx d p) true ∧ MR S S' m [] [21, 23]) d (by omega) ⟨rfl, rfl, fun i hi => absurd hi (Nat.not_lt_zero _), fun _ => Nat.zero_le _, r1, MR_sub m1 (by decide) (by decide)⟩
        (by
          rintro ⟨b, b2, S2⟩ ⟨h1, h2, h3, h6, h4, h5⟩
          dsimp only at h1 h2 h3 h4 h5
          subst h1 h2
          unfold F_X10_number_34
          dsimp only
          rw [if_pos (Int32.le_refl _)]
          refine ⟨_, rfl, S2, ?_, ?_, h5⟩
          · unfold nuV
            by_cases c : nxt tx p = 48
            · have : d = 1 := by have := h6 c; omega
              subst this
              rw [if_pos c]
              show (nI (10 * 0 + dv (nxt tx (p + 0))), S2) = _
              rw [Nat.add_zero, c]; rfl
            · rw [if_neg c, dgC_eq d d p (Nat.le_refl _) h3 (Or.inl rfl)]
          · unfold nuC
            by_cases c : nxt tx p = 48
            · have : d = 1 := by have := h6 c; omega
              subst this
              rw [if_pos c]; exact h4
            · rw [if_neg c, dgC_eq d d p (Nat.le_refl _) h3 (Or.inl rfl)]; exact h4)
        (by
          rintro k ⟨b, b2, S2⟩ hk ⟨h1, h2, h3, h6, h4, h5⟩
          dsimp only at h1 h2 h3 h4 h5
          subst h1 h2
          have hpk : p + k ≤ 80 := by
            cases k with
            | zero => omega
            | succ k => have := hlt k (h3 k (by omega)); omega
          unfold F_X10_number_34
          dsimp only
          rw [if_neg (nI_ge hk (by omega)), s10_g23 h5.1, Option.bind_some, h4.2.2.1, ite1 rfl, r_here h5.1 h4 ht hpk, Option.bind_some, in_eq, Option.bind_some]
          cases q2 : isDg (nxt tx (p + k))
          · rw [itp0 (fun z => by rw [(here_dg ht _).mp z] at q2; cases q2)]
            have hk0 : k ≠ 0 := fun z => by subst z; rw [Nat.add_zero, q] at q2; cases q2
            refine ⟨_, rfl, S2, ?_, ?_, h5⟩
            · unfold nuV
              by_cases c : nxt tx p = 48
              · have : k = 1 := by have := h6 c; omega
                subst this
                rw [if_pos c]
                show (nI (10 * 0 + dv (nxt tx (p + 0))), S2) = _
                rw [Nat.add_zero, c]; rfl
              · rw [if_neg c, dgC_eq k d p (by omega) h3 (Or.inr q2)]
            · unfold nuC
              by_cases c : nxt tx p = 48
              · have : k = 1 := by have := h6 c; omega
                subst this
                rw [if_pos c]; exact h4
              · rw [if_neg c, dgC_eq k d p (by omega) h3 (Or.inr q2)]; exact h4
          · rw [itp1 ((here_dg ht _).mpr q2)]
            obtain ⟨S3, e3, m3, r3⟩ := step S2 k h5 h4 q2 (hlt k q2)
            have nxt3 : ∀ i, i < k + 1 → isDg (nxt tx (p + i)) = true := fun i hi => by
              rcases Nat.lt_succ_iff_lt_or_eq.mp hi with z | z
              · exact h3 i z
              · rw [z]; exact q2
            by_cases k0 : k = 0
            · subst k0
              rw [if_pos (show nI 0 = (0 : Int32) from rfl), e3]
              exact ⟨_, rfl, rfl, rfl, nxt3, fun _ => by omega, r3, m3⟩
            · rw [if_neg (nI_n0 k0 (by omega))]
              by_cases c : nxt tx p = 48
              · have hk1 : k = 1 := by have := h6 c; omega
                subst hk1
                have ev : dgV tx p 1 = 0 := by
                  show 10 * 0 + dv (nxt tx (p + 0)) = 0
                  rw [Nat.add_zero, c]; rfl
                rw [ev, if_pos (by decide)]
                refine ⟨_, rfl, S2, ?_, ?_, h5⟩
                · unfold nuV; rw [if_pos c]
                · unfold nuC; rw [if_pos c]; exact h4
              · have hvp : 0 < dgV tx p k := by
                  have e0 := isDg_n ht (h3 0 (by omega))
                  rw [Nat.add_zero] at e0
                  have h0 : 0 < dv (nxt tx p) := by
                    rcases Nat.eq_zero_or_pos (dv (nxt tx p)) with z | z
                    · rw [z] at e0; exact absurd e0.1 c
                    · exact z
                  have : ∀ j, 0 < j → 0 < dgV tx p j := by
                    intro j hj
                    induction j with
                    | zero => omega
                    | succ j ihj =>
                      show 0 < 10 * dgV tx p j + dv (nxt tx (p + j))
                      cases j with
                      | zero => rw [Nat.add_zero]; omega
                      | succ j => have := ihj (by omega); omega
                  exact this k (by omega)
                have hvl := dgV_lt ht p k (by omega) h3
                have : 10 ^ k ≤ 10 ^ 4 := Nat.pow_le_pow_right (by decide) (by omega)
                rw [if_neg (show ¬ nI (dgV tx p k) ≤ (0 : Int32) from nI_ge (a := 0) hvp (by omega)), e3]
                exact ⟨_, rfl, rfl, rfl, nxt3, fun z => absurd z c, r3, m3⟩)
      obtain ⟨S2, rfl, r2, m2⟩ := hr
      rw [e, Option.bind_some]
      refine ⟨S2, _, rfl, m2, ?_, fun _ _ => rfl⟩
      rw [if_pos rfl, decide_eq_true hyes]
      exact r2
theorem r_value (hs : Sh S m sp10) (h : RP S m tx p true) (ht : txOk tx) (hp : p ≤ tx.length) : ∃ S' v, F_X10_value S m = some (v, S') ∧ MR S S' m [] [21, 23] ∧ RP S' m tx (vaP tx p + nuC tx 3 (vaP tx p)) (decide (0 < nuC tx 3 (vaP tx p))) ∧ (0 < nuC tx 3 (vaP tx p) → v = vaV tx p) := by
  unfold F_X10_value vaV
  obtain ⟨S1, e1, m1, r1⟩ := r_skips hs h ht hp 45 (by decide)
  have r1' : RP S1 m tx (vaP tx p) true := by
    unfold vaP
    by_cases c : nxt tx p = 45
    · rw [if_pos ⟨rfl, c⟩] at r1; rw [if_pos c]; exact r1
    · rw [if_neg (fun z => c z.2)] at r1; rw [if_neg c]; exact r1
  have hp1 : vaP tx p ≤ tx.length := by
    unfold vaP
    by_cases c : nxt tx p = 45
    · rw [if_pos c]
      rcases Nat.lt_or_ge p tx.length with z | z
      · exact z
      · rw [nxt_ge z] at c; exact absurd c (by decide)
    · rw [if_neg c]; exact hp
  obtain ⟨S2, v, e2, m2, r2, hv⟩ := r_number (d := 3) m1.1 r1' ht hp1 (by decide) (by decide)
  have e2' : F_X10_number S1 m (3 : Int32) = some (v, S2) := e2
  rw [if_pos rfl, Bool.true_and] at r2
  rw [s10_oF hs, e1, Option.bind_some]
  dsimp only
  rw [e2', Option.bind_some]
  dsimp only
  by_cases c : nxt tx p = 45
  · rw [itp1 ⟨rfl, c⟩, if_pos c]
    exact ⟨S2, _, rfl, MR_trans (MR_sub m1 (by decide) (by decide)) m2, r2, fun z => by rw [hv rfl z]⟩
  · rw [itp0 (fun z => c z.2), if_neg c]
    exact ⟨S2, _, rfl, MR_trans (MR_sub m1 (by decide) (by decide)) m2, r2, fun z => hv rfl z⟩
end WRD
