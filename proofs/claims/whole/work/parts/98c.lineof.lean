/-! lineOf, both sides -/
section LOF
variable {S : pS} {R : Nat → Option Nat} {c1 c2 m : Nat} {A : As}
def rwI (rows : List Rw) (j : Nat) : Int32 := nI (rows.getD (j + 1) (0, 0, 0, 0)).1
def lofF (rows : List Rw) (x : Int32) : Nat → Option Nat
  | 0 => none
  | n + 1 => match lofF rows x n with
    | some j => some j
    | none => if rwI rows n = x then some n else none
def lofV (rows : List Rw) (x : Int32) : Int32 := match lofF rows x (rows.length - 1) with
  | some j => nI j
  | none => -1
theorem lofF_mono (rows : List Rw) (x : Int32) {n j : Nat} (h : lofF rows x n = some j) : ∀ k, lofF rows x (n + k) = some j := by
  intro k
  induction k with
  | zero => exact h
  | succ k ih =>
    show (match lofF rows x (n + k) with | some j => some j | none => if rwI rows (n + k) = x then some (n + k) else none) = some j
    rw [ih]
theorem rw_get {rows : List Rw} {j : Nat} (h : j + 1 < rows.length) : rows[j + 1]? = some (rows.getD (j + 1) (0, 0, 0, 0)) := by
  rw [List.getD_eq_getElem?_getD, List.getElem?_eq_getElem h]; rfl
def stLineOf (A : As) (x : Int32) : Rs := (A, 0, lofV (linesT A) x)
theorem c_itemOf {acc : List Rw} {b j : Nat} (h : LR S b acc) (hj : j + 1 < acc.length) (hl : acc.length ≤ 301) : F_X5_itemOf S b (nI j) = some (rwI acc j) := by
  unfold F_X5_itemOf
  rw [s5_oF h.1, s5_g0 h.1, Option.bind_some, nI_1, s5_r0 h.1 (by omega), Option.bind_some, (h.2.2 _ _ (rw_get hj)).1]; rfl
theorem c_lineOf (h : CSr S A R c1 c2) (hA : aOk A) (x : Int32) : cP S (F_X9_lineOf S 0 x) (stLineOf A x) := by
  unfold F_X9_lineOf stLineOf
  obtain ⟨S1, e1, h1, f1, L1⟩ := c_countLines h hA
  have hp := lines_pos A hA
  rw [x_oF h.1, e1, Option.bind_some]
  dsimp only
  obtain ⟨r, e, hr⟩ := iter_fu (F := F_X9_lineOf_7 0 x (nI ((linesT A).length - 1)) S1) (s := (0 : Int32)) (fun k y => y = nI k ∧ lofF (linesT A) x k = none) (P := fun r => (∃ j, r = .inl (nI j) ∧ lofF (linesT A) x ((linesT A).length - 1) = some j) ∨ (r = .inr () ∧ lofF (linesT A) x ((linesT A).length - 1) = none)) ((linesT A).length - 1) (by omega) ⟨rfl, rfl⟩
    (by
      rintro y ⟨rfl, hy⟩
      unfold F_X9_lineOf_7
      rw [if_pos (nI_le (Nat.le_refl _) (by omega))]
      exact ⟨_, rfl, Or.inr ⟨rfl, hy⟩⟩)
    (by
      rintro k y hk ⟨rfl, hy⟩
      unfold F_X9_lineOf_7
      rw [if_neg (nI_ge hk (by omega)), (x_gs h1.1).2.2.2.2.2.2.1, Option.bind_some, c_itemOf L1 (by omega) hp.2, Option.bind_some]
      have es : lofF (linesT A) x (k + 1) = if rwI (linesT A) k = x then some k else none := by
        show (match lofF (linesT A) x k with | some j => some j | none => if rwI (linesT A) k = x then some k else none) = _
        rw [hy]
      by_cases q : rwI (linesT A) k = x
      · rw [if_neg (fun z => z q)]
        rw [if_pos q] at es
        refine ⟨_, rfl, Or.inl ⟨k, rfl, ?_⟩⟩
        have := lofF_mono (linesT A) x es ((linesT A).length - 1 - (k + 1))
        rw [show k + 1 + ((linesT A).length - 1 - (k + 1)) = (linesT A).length - 1 by omega] at this
        exact this
      · rw [if_pos q, nI_1]
        rw [if_neg q] at es
        exact ⟨_, rfl, rfl, es⟩)
  rw [e, Option.bind_some]
  unfold lofV
  rcases hr with ⟨j, rfl, w⟩ | ⟨rfl, w⟩
  · rw [w]
    exact ⟨S1, f1, cs_of h1, rfl⟩
  · rw [w]
    exact ⟨S1, f1, cs_of h1, rfl⟩
theorem r_lineOf (h : RS S m A) (hA : aOk A) (x : Int32) : rC S m (F_X10_lineOf S m x) (stLineOf A x) := by
  unfold F_X10_lineOf stLineOf
  obtain ⟨S0, e0, h0, m0, t0⟩ := r_start h 0
  obtain ⟨S1, e1, h1, m1, L1⟩ := r_lines h0 hA
  have hp := lines_pos A hA
  rw [s10_oF h.1.1, e0, Option.bind_some, e1, Option.bind_some]
  obtain ⟨r, e, hr⟩ := iter_fu (F := F_X10_lineOf_11 m x S1) (s := (0 : Int32)) (fun k y => y = nI k ∧ lofF (linesT A) x k = none) (P := fun r => (∃ j, r = .inl (nI j) ∧ lofF (linesT A) x ((linesT A).length - 1) = some j) ∨ (r = .inr () ∧ lofF (linesT A) x ((linesT A).length - 1) = none)) ((linesT A).length - 1) (by omega) ⟨rfl, rfl⟩
    (by
      rintro y ⟨rfl, hy⟩
      unfold F_X10_lineOf_11
      rw [s10_g41 h1.1.1, Option.bind_some, L1.1, if_pos (nI_le (Nat.le_refl _) (by omega))]
      exact ⟨_, rfl, Or.inr ⟨rfl, hy⟩⟩)
    (by
      rintro k y hk ⟨rfl, hy⟩
      unfold F_X10_lineOf_11
      have hg := (L1.2 k _ (rw_get (show k + 1 < (linesT A).length by omega))).1
      have hg' : cI (S1.2 (m + 25)) k = rwI (linesT A) k := hg
      rw [s10_g41 h1.1.1, Option.bind_some, L1.1, if_neg (nI_ge hk (by omega)), s10_g37 h1.1.1, Option.bind_some, s10_r37 h1.1.1 (by omega), Option.bind_some, hg']
      have es : lofF (linesT A) x (k + 1) = if rwI (linesT A) k = x then some k else none := by
        show (match lofF (linesT A) x k with | some j => some j | none => if rwI (linesT A) k = x then some k else none) = _
        rw [hy]
      by_cases q : rwI (linesT A) k = x
      · rw [if_neg (fun z => z q)]
        rw [if_pos q] at es
        refine ⟨_, rfl, Or.inl ⟨k, rfl, ?_⟩⟩
        have := lofF_mono (linesT A) x es ((linesT A).length - 1 - (k + 1))
        rw [show k + 1 + ((linesT A).length - 1 - (k + 1)) = (linesT A).length - 1 by omega] at this
        exact this
      · rw [if_pos q, nI_1]
        rw [if_neg q] at es
        exact ⟨_, rfl, rfl, es⟩)
  have t1 : fI (S1.2 m) 0 = 0 := by rw [m1.2.2.2.2 0 (by decide)]; exact t0
  have hb := Bk_trans (Bk_MR m0) (Bk_MR m1)
  rw [e, Option.bind_some]
  unfold lofV
  rcases hr with ⟨j, rfl, w⟩ | ⟨rfl, w⟩
  · rw [w]
    exact ⟨_, S1, rfl, h1, hb, t1, fun _ => rfl⟩
  · rw [w]
    exact ⟨_, S1, rfl, h1, hb, t1, fun _ => rfl⟩
end LOF
