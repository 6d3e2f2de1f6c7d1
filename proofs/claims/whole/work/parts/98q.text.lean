/-! texts: where they are read, letters; both sides -/
section TXR
variable {S : pS} {m : Nat} {A : As} {tx : List Int32} {p : Nat}
def nxt (tx : List Int32) (p : Nat) : Int32 := tx.getD p 0
def isLt (x : Int32) : Bool := decide (97 ≤ x) && decide (x ≤ 122)
def txOk (tx : List Int32) : Prop := tx.length ≤ 80 ∧ ∀ x, x ∈ tx → 32 ≤ x ∧ x ≤ 126
theorem nxt_lt (h : p < tx.length) : tx[p]? = some (nxt tx p) := getD_some (l := tx) h |>.trans (by unfold nxt; rfl)
theorem nxt_ge (h : tx.length ≤ p) : nxt tx p = 0 := by
  unfold nxt
  rw [List.getD_eq_getElem?_getD, List.getElem?_eq_none h]; rfl
theorem nxt_n (h : txOk tx) (p : Nat) : ∃ n, n < 127 ∧ nxt tx p = nI n ∧ (p < tx.length → 32 ≤ n) := by
  rcases Nat.lt_or_ge p tx.length with c | c
  · have hm := h.2 _ (List.mem_of_getElem? (nxt_lt c))
    rcases nI_split (nxt tx p) with z | ⟨n, hn, e⟩
    · exact absurd (Int32.lt_trans z (by decide)) (Int32.not_lt.mpr hm.1)
    · rw [e] at hm
      have h1 := (nI_leI (b := 126) hn (by decide)).mp hm.2
      have h2 := (nI_leI (a := 32) (by decide) hn).mp hm.1
      exact ⟨n, by omega, e, fun _ => h2⟩
  · exact ⟨0, by decide, nxt_ge c, fun z => absurd z (by omega)⟩
theorem oC_n {n : Nat} (h : n < 127) : oC (nI n) = some (nI n) := by
  unfold oC
  rw [if_pos (pk_charN (by omega)).1]
/-- a text stands, it is read from p on -/
def XP (S : pS) (tx : List Int32) (p : Nat) : Prop := XT S tx ∧ fI (S.2 53) 2 = nI p
theorem c_next (h : XP S tx p) (ht : txOk tx) (hp : p ≤ 80) : F_X7_next S 53 = some (nxt tx p) := by
  obtain ⟨⟨k0, k1, k2⟩, k3⟩ := h
  have hl := ht.1
  unfold F_X7_next
  rw [s7_oF k0, s7_g2 k0, Option.bind_some, s7_g1 k0, Option.bind_some, k3, k1]
  rcases Nat.lt_or_ge p tx.length with c | c
  · have eg : oGA S 53 7 0 = some 54 := s7_g0 k0
    have er : oAI S 54 .char (nI p) = some (cI (S.2 54) p) := s7_r0 k0 (by omega)
    obtain ⟨n, n1, n2, -⟩ := nxt_n ht p
    rw [if_neg (nI_ge c (by omega)), eg, Option.bind_some, Option.bind_some, er, Option.bind_some, k2 p _ (nxt_lt c), n2, oC_n n1, Option.bind_some]
  · rw [if_pos (nI_le c (by omega)), nxt_ge c]; rfl
theorem isLt_iff (x : Int32) : isLt x = true ↔ 97 ≤ x ∧ x ≤ 122 := by
  unfold isLt
  rw [Bool.and_eq_true, decide_eq_true_eq, decide_eq_true_eq]
theorem isLt_f {x : Int32} (h : isLt x = false) : x < 97 ∨ (¬ x < 97 ∧ 122 < x) := by
  by_cases c : x < 97
  · exact Or.inl c
  · refine Or.inr ⟨c, ?_⟩
    rcases Int32.lt_or_le 122 x with z | z
    · exact z
    · rw [(isLt_iff x).mpr ⟨Int32.not_lt.mp c, z⟩] at h
      cases h
/-- how many letters stand at p, at most n -/
def ltC (tx : List Int32) : Nat → Nat → Nat
  | 0, _ => 0
  | n + 1, p => if isLt (nxt tx p) = true then ltC tx n (p + 1) + 1 else 0
theorem ltC_eq : ∀ k n p, k ≤ n → (∀ i, i < k → isLt (nxt tx (p + i)) = true) → (k = n ∨ isLt (nxt tx (p + k)) = false) → ltC tx n p = k := by
  intro k
  induction k with
  | zero =>
    intro n p _ _ h
    cases n with
    | zero => rfl
    | succ n =>
      rcases h with h | h
      · cases h
      · show (if isLt (nxt tx p) = true then _ else 0) = 0
        rw [Nat.add_zero] at h
        rw [h]; rfl
  | succ k ih =>
    intro n p hn h1 h2
    obtain ⟨n, rfl⟩ : ∃ n', n = n' + 1 := ⟨n - 1, by omega⟩
    show (if isLt (nxt tx p) = true then ltC tx n (p + 1) + 1 else 0) = k + 1
    rw [if_pos (show isLt (nxt tx p) = true from h1 0 (by omega)), ih n (p + 1) (by omega) (fun i hi => by
      have := h1 (i + 1) (by omega)
      rw [show p + 1 + i = p + (i + 1) by omega]; exact this) (by
      rcases h2 with z | z
      · exact Or.inl (by omega)
      · right; rw [show p + 1 + k = p + (k + 1) by omega]; exact z)]
theorem ltC_sp : ∀ n p, ltC tx n p ≤ n ∧ (∀ i, i < ltC tx n p → isLt (nxt tx (p + i)) = true) ∧ (ltC tx n p = n ∨ isLt (nxt tx (p + ltC tx n p)) = false) := by
  intro n
  induction n with
  | zero => intro p; exact ⟨Nat.le_refl _, fun i hi => absurd hi (Nat.not_lt_zero _), Or.inl rfl⟩
  | succ n ih =>
    intro p
    have e : ltC tx (n + 1) p = if isLt (nxt tx p) = true then ltC tx n (p + 1) + 1 else 0 := rfl
    rw [e]
    by_cases c : isLt (nxt tx p) = true
    · rw [if_pos c]
      obtain ⟨h1, h2, h3⟩ := ih (p + 1)
      refine ⟨by omega, fun i hi => ?_, ?_⟩
      · cases i with
        | zero => exact c
        | succ i => rw [show p + (i + 1) = p + 1 + i by omega]; exact h2 i (by omega)
      · rcases h3 with z | z
        · exact Or.inl (by omega)
        · right; rw [show p + (ltC tx n (p + 1) + 1) = p + 1 + ltC tx n (p + 1) by omega]; exact z
    · rw [if_neg c]
      refine ⟨Nat.zero_le _, fun i hi => absurd hi (Nat.not_lt_zero _), Or.inr ?_⟩
      rw [Nat.add_zero]
      exact Bool.eq_false_iff.mpr c
theorem ltC_le {n : Nat} (hp : p ≤ tx.length) : p + ltC tx n p ≤ tx.length := by
  obtain ⟨h1, h2, h3⟩ := ltC_sp (tx := tx) n p
  rcases Nat.lt_or_ge tx.length (p + ltC tx n p) with c | c
  · have := h2 (tx.length - p) (by omega)
    rw [show p + (tx.length - p) = tx.length by omega, nxt_ge (Nat.le_refl _)] at this
    exact absurd this (by decide)
  · exact c
theorem raw_wc {a n i : Nat} {ty : FieldType} (h : rawA S a ty n) (hi : i < n) (hn : n < 2 ^ 31) {v : Int32} (hv : vp_nar ty v = v) : oSI S a ty (nI i) v = some (wI S a i v) ∧ rawA (wI S a i v) a ty n ∧ cI ((wI S a i v).2 a) = pu (cI (S.2 a)) i v := by
  obtain ⟨h1, f, h2, h3⟩ := h
  refine ⟨?_, ⟨h1, pu f i v, ?_, fun j => ?_⟩, ?_⟩
  · unfold oSI wI
    rw [oArI_mk h1 h2, Option.bind_some, if_neg (nI_in hi hn), nI_clamp (by omega), h2]
    rfl
  · rw [wI_at, h2]
    show (Sum.inl (ty, n, Sum.inl (pu f i (vp_nar ty v))) : pE) = _
    rw [hv]
  · by_cases c : j = i
    · rw [c, pu_at, ← hv]; exact nar_fits (h3 0) v
    · rw [pu_ne _ _ _ c]; exact h3 j
  · rw [wI_at, h2]
    show pu f i (vp_nar ty v) = pu f i v
    rw [hv]
theorem XT_wI {S : pS} {a i : Nat} {v : Int32} (h : XT S tx) (h1 : a ≠ 53) (h2 : a ≠ 54) : XT (wI S a i v) tx := by
  refine ⟨sh_wI h.1 _ _ _, ?_⟩
  rw [wI_ne _ _ _ (Ne.symm h1), wI_ne _ _ _ (Ne.symm h2)]
  exact h.2
/-- the reader goes to p -/
theorem c_goto (h : XT S tx) (p : Nat) : oPI S 53 7 2 (nI p) = some (wF S 53 2 (.int (nI p))) ∧ XP (wF S 53 2 (.int (nI p))) tx p := by
  have k := s7_k2 h.1 h.1 (nI p)
  refine ⟨s7_p2 h.1 (nI p), ⟨k, ?_, ?_⟩, s7_v2 h.1 (nI p)⟩
  · rw [fI_wF_ne _ _ _ (by decide)]; exact h.2.1
  · rw [wF_ne _ _ _ (by decide)]; exact h.2.2
theorem c_takeLetters {a N o : Nat} (h : XP S tx p) (ht : txOk tx) (hp : p ≤ tx.length) (ha : rawA S a .char N) (h53 : a ≠ 53) (h54 : a ≠ 54) (hN : o + 10 ≤ N) (hN2 : N < 2 ^ 31) :
    ∃ S', F_X7_takeLetters S 53 a (nI o) = some (nI (ltC tx 10 p), S') ∧ XP S' tx (p + ltC tx 10 p) ∧ S'.1 = S.1 ∧ (∀ q, q ≠ a → q ≠ 53 → S'.2 q = S.2 q) ∧ rawA S' a .char N ∧ (∀ i, i < ltC tx 10 p → cI (S'.2 a) (o + i) = nxt tx (p + i)) ∧ (∀ i, i < o ∨ o + ltC tx 10 p ≤ i → cI (S'.2 a) i = cI (S.2 a) i) ∧ ∀ b sp, Sh S b sp → shT sp = true → b ≠ 53 → Sh S' b sp := by
  have hl := ht.1
  unfold F_X7_takeLetters
  obtain ⟨r, e, hr⟩ := iter_fu (F := F_X7_takeLetters_2 53 a (nI o)) (s := ((0 : Int32), S)) (fun k s => s.1 = nI k ∧ (∀ i, i < k → isLt (nxt tx (p + i)) = true) ∧ XP s.2 tx (p + k) ∧ s.2.1 = S.1 ∧ (∀ q, q ≠ a → q ≠ 53 → s.2.2 q = S.2 q) ∧ rawA s.2 a .char N ∧ (∀ i, i < k → cI (s.2.2 a) (o + i) = nxt tx (p + i)) ∧ (∀ i, i < o ∨ o + k ≤ i → cI (s.2.2 a) i = cI (S.2 a) i) ∧ ∀ b sp, Sh S b sp → shT sp = true → b ≠ 53 → Sh s.2 b sp)
    (P := fun s => s.1 = nI (ltC tx 10 p) ∧ XP s.2 tx (p + ltC tx 10 p) ∧ s.2.1 = S.1 ∧ (∀ q, q ≠ a → q ≠ 53 → s.2.2 q = S.2 q) ∧ rawA s.2 a .char N ∧ (∀ i, i < ltC tx 10 p → cI (s.2.2 a) (o + i) = nxt tx (p + i)) ∧ (∀ i, i < o ∨ o + ltC tx 10 p ≤ i → cI (s.2.2 a) i = cI (S.2 a) i) ∧ ∀ b sp, Sh S b sp → shT sp = true → b ≠ 53 → Sh s.2 b sp) 10 (by decide) ⟨rfl, fun i hi => absurd hi (Nat.not_lt_zero _), h, rfl, fun _ _ _ => rfl, ha, fun i hi => absurd hi (Nat.not_lt_zero _), fun _ _ => rfl, fun _ _ h _ _ => h⟩
    (by
      rintro ⟨b, S1⟩ ⟨h1, h2, h3⟩
      dsimp only at h1 h2 h3
      subst h1
      unfold F_X7_takeLetters_2
      rw [if_pos (show (10 : Int32) ≤ nI 10 from by decide)]
      have : ltC tx 10 p = 10 := ltC_eq 10 10 p (Nat.le_refl _) h2 (Or.inl rfl)
      rw [this]
      exact ⟨_, rfl, rfl, h3⟩)
    (by
      rintro k ⟨b, S1⟩ hk ⟨h1, h2, h3⟩
      dsimp only at h1 h2 h3
      subst h1
      have hpk : p + k ≤ tx.length := by
        rcases Nat.lt_or_ge tx.length (p + k) with c | c
        · have := h2 (tx.length - p) (by omega)
          rw [show p + (tx.length - p) = tx.length by omega, nxt_ge (Nat.le_refl _)] at this
          exact absurd this (by decide)
        · exact c
      unfold F_X7_takeLetters_2
      rw [if_neg (ge10 hk)]
      dsimp only
      rw [c_next h3.1 ht (by omega), Option.bind_some, Option.bind_some, Option.bind_some]
      cases q : isLt (nxt tx (p + k))
      · have ek : ltC tx 10 p = k := ltC_eq k 10 p (by omega) h2 (Or.inr q)
        rw [ek]
        rcases isLt_f q with z | ⟨z, w⟩
        · rw [if_pos z]; exact ⟨_, rfl, rfl, h3⟩
        · rw [if_neg z, if_pos w]; exact ⟨_, rfl, rfl, h3⟩
      · have hq := (isLt_iff _).mp q
        have hx32 : p + k < tx.length := by
          rcases Nat.lt_or_ge (p + k) tx.length with c | c
          · exact c
          · rw [nxt_ge c] at q; exact absurd q (by decide)
        obtain ⟨k3, k4, k5, k6, k7, k8, k9⟩ := h3
        obtain ⟨n, n1, n2, -⟩ := nxt_n ht (p + k)
        have hv : vp_nar .char (nxt tx (p + k)) = nxt tx (p + k) := by rw [n2]; exact (chr_n n n1).2
        obtain ⟨w1, w2, w3⟩ := raw_wc k6 (show o + k < N by omega) hN2 hv
        rw [if_neg (Int32.not_lt.mpr hq.1), if_neg (Int32.not_lt.mpr hq.2), nI_add, w1, Option.bind_some]
        have x2 : XT (wI S1 a (o + k) (nxt tx (p + k))) tx := XT_wI k3.1 h53 h54
        have f2 : fI ((wI S1 a (o + k) (nxt tx (p + k))).2 53) 2 = nI (p + k) := by rw [wI_ne _ _ _ (Ne.symm h53)]; exact k3.2
        have o2 : ∀ q, q ≠ a → (wI S1 a (o + k) (nxt tx (p + k))).2 q = S1.2 q := fun q hq => wI_ne _ _ _ hq
        have s2 : ∀ b sp, Sh S1 b sp → Sh (wI S1 a (o + k) (nxt tx (p + k))) b sp := fun b sp hb => sh_wI hb _ _ _
        have u2 : (wI S1 a (o + k) (nxt tx (p + k))).1 = S1.1 := rfl
        generalize wI S1 a (o + k) (nxt tx (p + k)) = S2 at *
        obtain ⟨g1, g2⟩ := c_goto x2 (p + k + 1)
        rw [s7_g2 x2.1, Option.bind_some, f2, nI_1, nI_1, g1, Option.bind_some]
        have w4 := w2
        obtain ⟨r1, rf, r2, r3⟩ := w4
        refine ⟨_, rfl, rfl, fun i hi => ?_, ?_, ?_, fun q q1 q2 => ?_, ⟨r1, rf, ?_, r3⟩, fun i hi => ?_, fun i hi => ?_, fun b sp hb hs hn => ?_⟩
        · rcases Nat.lt_succ_iff_lt_or_eq.mp hi with z | z
          · exact h2 i z
          · rw [z]; exact q
        · exact g2
        · show S2.1 = S.1
          rw [u2]; exact k4
        · dsimp only
          rw [wF_ne _ _ _ q2, o2 q q1, k5 q q1 q2]
        · dsimp only
          rw [wF_ne _ _ _ h53]; exact r2
        · dsimp only
          rw [wF_ne _ _ _ h53, w3]
          rcases Nat.lt_succ_iff_lt_or_eq.mp hi with z | z
          · rw [pu_ne _ _ _ (by omega)]; exact k7 i z
          · rw [z, pu_at]
        · dsimp only
          rw [wF_ne _ _ _ h53, w3, pu_ne _ _ _ (by omega)]
          exact k8 i (by omega)
        · exact sh_wF (s2 b sp (k9 b sp hb hs hn)) hs hn _ _)
  obtain ⟨b, S'⟩ := r
  dsimp only at hr
  obtain ⟨r1, r2⟩ := hr
  subst r1
  rw [s7_oF h.1.1, e, Option.bind_some]
  exact ⟨S', rfl, r2⟩
/-! the reference -/
def RP (S : pS) (m : Nat) (tx : List Int32) (p : Nat) (g : Bool) : Prop := fI (S.2 m) 21 = nI p ∧ fI (S.2 m) 22 = nI tx.length ∧ fI (S.2 m) 23 = (if g = true then 1 else 0) ∧ ∀ (k : Nat) x, tx[k]? = some x → cI (S.2 (m + 6)) k = x
def here (tx : List Int32) (p : Nat) : Int32 := if p < tx.length then nxt tx p else -1
theorem r_here {g : Bool} (hs : Sh S m sp10) (h : RP S m tx p g) (ht : txOk tx) (hp : p ≤ 80) : F_X10_here S m = some (here tx p) := by
  obtain ⟨h1, h2, h3, h4⟩ := h
  have hl := ht.1
  unfold F_X10_here here
  rw [s10_oF hs, s10_g21 hs, Option.bind_some, s10_g22 hs, Option.bind_some, h1, h2]
  rcases Nat.lt_or_ge p tx.length with c | c
  · rw [if_neg (nI_ge c (by omega)), if_pos c, s10_g9 hs, Option.bind_some, Option.bind_some, s10_r9 hs (by omega), Option.bind_some, h4 p _ (nxt_lt c)]
  · rw [if_pos (nI_le c (by omega)), if_neg (by omega)]
theorem here_lt (ht : txOk tx) (p : Nat) : (¬ here tx p < 97 ∧ ¬ 122 < here tx p) ↔ isLt (nxt tx p) = true := by
  rw [isLt_iff]
  unfold here
  by_cases c : p < tx.length
  · rw [if_pos c, Int32.not_lt, Int32.not_lt]
  · rw [if_neg c, nxt_ge (by omega)]
    exact ⟨fun z => absurd (by decide) z.1, fun z => absurd z.1 (by decide)⟩
theorem here_eq (ht : txOk tx) (p : Nat) {x : Int32} (h32 : 32 ≤ x) : here tx p = x ↔ nxt tx p = x := by
  unfold here
  by_cases c : p < tx.length
  · rw [if_pos c]
  · rw [if_neg c, nxt_ge (by omega)]
    constructor
    · intro z; rw [← z] at h32; exact absurd h32 (by decide)
    · intro z; rw [← z] at h32; exact absurd h32 (by decide)
theorem RP_fr {S1 : pS} {g : Bool} {L ks : List Nat} (h : RP S m tx p g) (hM : MR S S1 m L ks) (hL : 6 ∉ L) (hk : 21 ∉ ks ∧ 22 ∉ ks ∧ 23 ∉ ks) : RP S1 m tx p g := by
  unfold RP
  rw [hM.2.2.2.2 21 hk.1, hM.2.2.2.2 22 hk.2.1, hM.2.2.2.2 23 hk.2.2, hM.2.2.2.1 6 hL (by decide)]
  exact h
/-- a sign of the reader is put -/
theorem RP_g {g : Bool} (hs : Sh S m sp10) (h : RP S m tx p g) (g' : Bool) : ∃ S', oPZ S m 10 23 (if g' = true then 1 else 0) = some S' ∧ MR S S' m [] [23] ∧ RP S' m tx p g' := by
  have k := s10_k23 hs hs (if g' = true then 1 else 0)
  have mm := r_setF hs (if g' = true then 1 else 0) k
  have hv : (if g' = true then (1 : Int32) else 0) = 0 ∨ (if g' = true then (1 : Int32) else 0) = 1 := by cases g' <;> simp
  refine ⟨_, s10_q23 hs hv, mm, ?_⟩
  refine ⟨?_, ?_, s10_v23 hs _, ?_⟩
  · rw [mm.2.2.2.2 21 (by decide)]; exact h.1
  · rw [mm.2.2.2.2 22 (by decide)]; exact h.2.1
  · rw [mm.2.2.2.1 6 (by decide) (by decide)]; exact h.2.2.2
theorem RP_p {g : Bool} (hs : Sh S m sp10) (h : RP S m tx p g) (p' : Nat) : ∃ S', oPI S m 10 21 (nI p') = some S' ∧ MR S S' m [] [21] ∧ RP S' m tx p' g := by
  have k := s10_k21 hs hs (nI p')
  have mm := r_setF hs (nI p') k
  refine ⟨_, s10_p21 hs _, mm, ?_⟩
  refine ⟨s10_v21 hs _, ?_, ?_, ?_⟩
  · rw [mm.2.2.2.2 22 (by decide)]; exact h.2.1
  · rw [mm.2.2.2.2 23 (by decide)]; exact h.2.2.1
  · rw [mm.2.2.2.1 6 (by decide) (by decide)]; exact h.2.2.2
/-- letters of the reference: where it stands then, whether it is right -/
def letR (tx : List Int32) (p : Nat) (g : Bool) : Nat × Bool := if g = true then (p + ltC tx 10 p, decide (0 < ltC tx 10 p) && !(decide (ltC tx 10 p = 10) && isLt (nxt tx (p + 10)))) else (p, false)
theorem r_letters {g : Bool} (hs : Sh S m sp10) (h : RP S m tx p g) (ht : txOk tx) (hp : p ≤ tx.length) : ∃ S', F_X10_letters S m = some (nI p, S') ∧ MR S S' m [] [21, 23] ∧ RP S' m tx (letR tx p g).1 (letR tx p g).2 := by
  have hl := ht.1
  unfold F_X10_letters
  rw [s10_oF hs, s10_g21 hs, Option.bind_some, h.1]
  have fin : ∀ (S1 : pS) (p1 : Nat) (g1 : Bool), p ≤ p1 → p1 ≤ 80 → MR S S1 m [] [21, 23] → RP S1 m tx p1 g1 → (letR tx p g) = (p1, g1 && decide (p < p1)) → ∃ S', F_X10_letters_70 S1 m (nI p) = some (nI p, S') ∧ MR S S' m [] [21, 23] ∧ RP S' m tx (letR tx p g).1 (letR tx p g).2 := by
    intro S1 p1 g1 hpp hp80 m1 r1 e
    rw [e]
    unfold F_X10_letters_70 F_X10_letters_90 F_X10_letters_91
    rw [s10_g23 m1.1, Option.bind_some, r1.2.2.1]
    cases g1 with
    | false =>
      obtain ⟨S2, e2, m2, r2⟩ := RP_g m1.1 r1 false
      rw [ite0 rfl, show oPZ S1 m 10 23 (0 : Int32) = some S2 from e2, Option.bind_some]
      exact ⟨S2, rfl, MR_trans m1 (MR_sub m2 (by decide) (by decide)), r2⟩
    | true =>
      rw [ite1 rfl, s10_g21 m1.1, Option.bind_some, r1.1]
      by_cases c : p < p1
      · obtain ⟨S2, e2, m2, r2⟩ := RP_g m1.1 r1 true
        rw [if_neg (nI_ge c (by omega)), show oPZ S1 m 10 23 (1 : Int32) = some S2 from e2, Option.bind_some]
        refine ⟨S2, rfl, MR_trans m1 (MR_sub m2 (by decide) (by decide)), ?_⟩
        rw [decide_eq_true c]; exact r2
      · obtain ⟨S2, e2, m2, r2⟩ := RP_g m1.1 r1 false
        rw [if_pos (nI_le (by omega) (by omega)), show oPZ S1 m 10 23 (0 : Int32) = some S2 from e2, Option.bind_some]
        refine ⟨S2, rfl, MR_trans m1 (MR_sub m2 (by decide) (by decide)), ?_⟩
        rw [decide_eq_false c]; exact r2
  cases g with
  | false =>
    have ex : F_X10_letters_5 m (nI p) S = some (.inr S) := by
      unfold F_X10_letters_5
      rw [s10_g23 hs, Option.bind_some, h.2.2.1, ite0 rfl]
    rw [Run_end (Run_0 (s := S)) (by decide) ex, Option.bind_some]
    exact fin S p false (Nat.le_refl _) (by omega) (MR_refl hs _ _) h rfl
  | true =>
    obtain ⟨S1, e, p1, g1, h1, h2, h3, h4, h5⟩ := iter_fu (F := F_X10_letters_5 m (nI p)) (s := S) (fun k s => ∃ g', MR S s m [] [21, 23] ∧ (∀ i, i < k → i < 10 → isLt (nxt tx (p + i)) = true) ∧ (if g' = true then k ≤ 10 ∧ RP s m tx (p + k) true else k = 11 ∧ isLt (nxt tx (p + 10)) = true ∧ RP s m tx (p + 10) false))
      (P := fun s => ∃ p1 g1, p ≤ p1 ∧ p1 ≤ 80 ∧ MR S s m [] [21, 23] ∧ RP s m tx p1 g1 ∧ (letR tx p true) = (p1, g1 && decide (p < p1))) 11 (by decide) ⟨true, MR_refl hs _ _, fun i hi => absurd hi (Nat.not_lt_zero _), by rw [if_pos rfl]; exact ⟨by omega, h⟩⟩
      (by
        rintro S1 ⟨g', m1, h2, h3⟩
        cases g' with
        | true => rw [if_pos rfl] at h3; omega
        | false =>
          rw [if_neg (by decide)] at h3
          obtain ⟨-, h4, h5⟩ := h3
          have e10 : ltC tx 10 p = 10 := ltC_eq 10 10 p (Nat.le_refl _) (fun i hi => h2 i (by omega) hi) (Or.inl rfl)
          have hle := ltC_le (n := 10) hp
          unfold F_X10_letters_5
          rw [s10_g23 m1.1, Option.bind_some, h5.2.2.1, ite0 rfl]
          refine ⟨_, rfl, p + 10, false, by omega, by omega, m1, h5, ?_⟩
          unfold letR
          rw [if_pos rfl, e10, h4]; rfl)
      (by
        rintro k S1 hk ⟨g', m1, h2, h3⟩
        cases g' with
        | false => rw [if_neg (by decide)] at h3; omega
        | true =>
          rw [if_pos rfl] at h3
          obtain ⟨hk10, h3⟩ := h3
          have hpk : p + k ≤ tx.length := by
            rcases Nat.lt_or_ge tx.length (p + k) with c | c
            · have := h2 (tx.length - p) (by omega) (by omega)
              rw [show p + (tx.length - p) = tx.length by omega, nxt_ge (Nat.le_refl _)] at this
              exact absurd this (by decide)
            · exact c
          unfold F_X10_letters_5
          rw [s10_g23 m1.1, Option.bind_some, h3.2.2.1, ite1 rfl, r_here m1.1 h3 ht (by omega), Option.bind_some, in_eq, Option.bind_some]
          cases q : isLt (nxt tx (p + k))
          · have ek : ltC tx 10 p = k := ltC_eq k 10 p (by omega) (fun i hi => h2 i hi (by omega)) (Or.inr q)
            rw [itp0 (fun z => by rw [(here_lt ht _).mp z] at q; cases q)]
            refine ⟨_, rfl, p + k, true, by omega, by omega, m1, h3, ?_⟩
            unfold letR
            rw [if_pos rfl, ek, Bool.true_and]
            have e1 : decide (p < p + k) = decide (0 < k) := decide_eq_decide.mpr (by omega)
            rw [e1]
            by_cases c : k = 10
            · subst c; rw [q]; simp
            · rw [decide_eq_false c]; simp
          · rw [itp1 ((here_lt ht _).mpr q), s10_g21 m1.1, Option.bind_some, h3.1, pk_sub (by omega), show p + k - p = k by omega]
            unfold F_X10_letters_43 F_X10_letters_63
            by_cases c : k = 10
            · subst c
              obtain ⟨S2, e2, m2, r2⟩ := RP_g m1.1 h3 false
              rw [if_pos (by decide), show oPZ S1 m 10 23 (0 : Int32) = some S2 from e2, Option.bind_some, s10_g21 m2.1, Option.bind_some, r2.1, s10_g23 m2.1, Option.bind_some, r2.2.2.1, ite0 rfl]
              obtain ⟨S3, e3, m3, r3⟩ := RP_p m2.1 r2 (p + 10)
              rw [show nI (p + 10) + (0 : Int32) = nI (p + 10) from Int32.add_zero _, e3, Option.bind_some]
              refine ⟨_, rfl, false, MR_trans m1 (MR_trans (MR_sub m2 (by decide) (by decide)) (MR_sub m3 (by decide) (by decide))), fun i hi hi2 => ?_, ?_⟩
              · exact h2 i (by omega) hi2
              · rw [if_neg (by decide)]
                exact ⟨rfl, q, r3⟩
            · obtain ⟨S2, e2, m2, r2⟩ := RP_g m1.1 h3 true
              rw [if_neg (ge10 (show k < 10 by omega)), show oPZ S1 m 10 23 (1 : Int32) = some S2 from e2, Option.bind_some, s10_g21 m2.1, Option.bind_some, r2.1, s10_g23 m2.1, Option.bind_some, r2.2.2.1, ite1 rfl, nI_1]
              obtain ⟨S3, e3, m3, r3⟩ := RP_p m2.1 r2 (p + k + 1)
              rw [e3, Option.bind_some]
              refine ⟨_, rfl, true, MR_trans m1 (MR_trans (MR_sub m2 (by decide) (by decide)) (MR_sub m3 (by decide) (by decide))), fun i hi hi2 => ?_, ?_⟩
              · rcases Nat.lt_succ_iff_lt_or_eq.mp hi with z | z
                · exact h2 i z hi2
                · rw [z]; exact q
              · rw [if_pos rfl]
                exact ⟨by omega, r3⟩)
    rw [e, Option.bind_some]
    exact fin S1 p1 g1 h1 h2 h3 h4 h5
end TXR
