/-! the class's tree is written -/
def tSetV (T : Tr) (i : Nat) (v : Int32) : Tr := (tMade T, tPres T, pu (tVal T) i v, tDay T, tDone T, tFold T, tName T, tKids T)
def tSetD (T : Tr) (i : Nat) (v : Int32) : Tr := (tMade T, tPres T, tVal T, pu (tDay T) i v, tDone T, tFold T, tName T, tKids T)
def tSetX (T : Tr) (i : Nat) (v : Bool) : Tr := (tMade T, tPres T, tVal T, tDay T, pu (tDone T) i v, tFold T, tName T, tKids T)
def tSetF (T : Tr) (i : Nat) (v : Bool) : Tr := (tMade T, tPres T, tVal T, tDay T, tDone T, pu (tFold T) i v, tName T, tKids T)
def tSetN (T : Tr) (i : Nat) (l : List Int32) : Tr := (tMade T, tPres T, tVal T, tDay T, tDone T, tFold T, pu (tName T) i l, tKids T)
/-- a new item -/
def tMk (T : Tr) (l : List Int32) : Tr := (tMade T + 1, pu (tPres T) (tMade T + 1) true, pu (tVal T) (tMade T + 1) 0, pu (tDay T) (tMade T + 1) (-1), pu (tDone T) (tMade T + 1) false, pu (tFold T) (tMade T + 1) false, pu (tName T) (tMade T + 1) l, pu (tKids T) (tMade T + 1) [])
/-- the root alone -/
def tNew : Tr := (0, fun i => decide (i = 0), fun _ => 0, fun _ => -1, fun _ => false, fun _ => false, fun _ => [], fun _ => [])
theorem pu_cg {α : Type} {f g : Nat → α} {i j : Nat} {v w : α} (h : v = w) (h2 : f j = g j) : pu f i v j = pu g i w j := by
  subst h
  unfold pu
  by_cases c : j = i
  · rw [if_pos c, if_pos c]
  · rw [if_neg c, if_neg c]; exact h2
/-- an array is copied into -/
theorem cpy_ok {S : pS} {a l j n N s d k : Nat} {ty : FieldType} {sp : List cS} {g : Nat → Int32} (h : Sh S a sp) (e : sp[j]? = some (.inr (ty, n))) (ht : ty ≠ .long) (hn : n < 2 ^ 31) (hN : N < 2 ^ 31) (hl : l < S.1) (hg : S.2 l = .inl (ty, N, .inl g)) (hf : ∀ i, fits ty (.int (g i)) = true) (h1 : s + k ≤ N) (h2 : d + k ≤ n) :
    ∃ S', oCpy S ty l (nI s) (a + j) (nI d) (nI k) = some S' ∧ Sh S' a sp ∧ S'.1 = S.1 ∧ (∀ q, q ≠ a + j → S'.2 q = S.2 q) ∧ cI (S'.2 (a + j)) = va_cpy g (cI (S.2 (a + j))) s d k := by
  obtain ⟨b1, f, b2, b3⟩ := sh_arr h e ht
  refine ⟨(S.1, pu S.2 (a + j) (.inl (ty, n, .inl (va_cpy g f s d k)))), ?_, ?_, rfl, fun q hq => pu_ne _ _ _ hq, ?_⟩
  · unfold oCpy
    rw [oArI_mk hl hg, Option.bind_some, oArI_mk b1 b2, Option.bind_some, if_neg]
    · rw [nI_clamp (by omega), nI_clamp (by omega), nI_clamp (by omega)]
    · rw [nI_clamp (by omega), nI_clamp (by omega), nI_clamp (by omega)]
      rintro (z | z | z | z | z | z)
      · exact nI_pos (by omega) z
      · exact nI_pos (by omega) z
      · exact nI_pos (by omega) z
      · dsimp only at z; omega
      · dsimp only at z; omega
      · exact z (fun i _ => hf _)
  · refine ⟨h.1, fun i x ei => ?_⟩
    by_cases c : i = j
    · subst c
      show okC a (pu S.2 (a + i) _ (a + i)) x
      rw [pu_at]
      rw [e] at ei
      cases ei
      unfold okC
      simp only [if_neg ht]
      refine ⟨_, rfl, fun i' => ?_⟩
      by_cases c1 : d ≤ i' ∧ i' < d + k
      · rw [pk_cpy_in c1.1 c1.2]; exact hf _
      · rw [pk_cpy_out (by omega)]; exact b3 _
    · show okC a (pu S.2 (a + j) _ (a + i)) x
      rw [pu_ne _ _ _ (by omega)]
      exact h.2 i x ei
  · show cI (pu S.2 (a + j) _ (a + j)) = _
    rw [pu_at, b2]
    rfl
section SETS
variable {S : pS} {a b : Nat} {T : Tr}

theorem c_setValue (h : TR S a T) (hT : tOk T) {i : Nat} (hp : tPres T i = true) (v : Int32) : ∃ S', F_X8_setValue S a (nI i) v = some S' ∧ TR S' a (tSetV T i v) ∧ Bk S S' a 7 := by
  have hi := tOk_lt hT hp
  obtain ⟨t1, t2, t3, t4⟩ := h
  unfold F_X8_setValue
  rw [s8_oF t1, s8_g4 t1, Option.bind_some, s8_w4 t1 hi, Option.bind_some]
  refine ⟨_, rfl, ⟨sh_wI t1 _ _ _, ?_, ?_, fun x hx => ?_⟩, ⟨rfl, fun q hq => wI_ne _ _ _ (by omega)⟩⟩
  · rw [wI_ne _ _ _ (show a ≠ a + 5 by omega)]; exact t2
  · rw [wI_ne _ _ _ (show a ≠ a + 5 by omega)]; exact t3
  · have hw := t4 x hx
    rw [wI_ne _ _ _ (show a ≠ a + 5 by omega), wI_ne _ _ _ (show a + 1 ≠ a + 5 by omega), wI_ne _ _ _ (show a + 2 ≠ a + 5 by omega), wI_ne _ _ _ (show a + 3 ≠ a + 5 by omega), wI_ne _ _ _ (show a + 4 ≠ a + 5 by omega), wI_ne _ _ _ (show a + 6 ≠ a + 5 by omega), s8_v4 t1]
    exact ⟨hw.1, hw.2.1, pu_cg rfl hw.2.2.1, hw.2.2.2.1, hw.2.2.2.2.1, hw.2.2.2.2.2.1, hw.2.2.2.2.2.2.1, hw.2.2.2.2.2.2.2⟩

theorem c_setDay (h : TR S a T) (hT : tOk T) {i : Nat} (hp : tPres T i = true) (v : Int32) : ∃ S', F_X8_setDay S a (nI i) v = some S' ∧ TR S' a (tSetD T i v) ∧ Bk S S' a 7 := by
  have hi := tOk_lt hT hp
  obtain ⟨t1, t2, t3, t4⟩ := h
  unfold F_X8_setDay
  rw [s8_oF t1, s8_g5 t1, Option.bind_some, s8_w5 t1 hi, Option.bind_some]
  refine ⟨_, rfl, ⟨sh_wI t1 _ _ _, ?_, ?_, fun x hx => ?_⟩, ⟨rfl, fun q hq => wI_ne _ _ _ (by omega)⟩⟩
  · rw [wI_ne _ _ _ (show a ≠ a + 6 by omega)]; exact t2
  · rw [wI_ne _ _ _ (show a ≠ a + 6 by omega)]; exact t3
  · have hw := t4 x hx
    rw [wI_ne _ _ _ (show a ≠ a + 6 by omega), wI_ne _ _ _ (show a + 1 ≠ a + 6 by omega), wI_ne _ _ _ (show a + 2 ≠ a + 6 by omega), wI_ne _ _ _ (show a + 3 ≠ a + 6 by omega), wI_ne _ _ _ (show a + 4 ≠ a + 6 by omega), wI_ne _ _ _ (show a + 5 ≠ a + 6 by omega), s8_v5 t1]
    exact ⟨hw.1, hw.2.1, hw.2.2.1, pu_cg rfl hw.2.2.2.1, hw.2.2.2.2.1, hw.2.2.2.2.2.1, hw.2.2.2.2.2.2.1, hw.2.2.2.2.2.2.2⟩

theorem c_setDone (h : TR S a T) (hT : tOk T) {i : Nat} (hp : tPres T i = true) (v : Int32) : ∃ S', F_X8_setDone S a (nI i) v = some S' ∧ TR S' a (tSetX T i (decide (v ≠ 0))) ∧ Bk S S' a 7 := by
  have hi := tOk_lt hT hp
  obtain ⟨t1, t2, t3, t4⟩ := h
  unfold F_X8_setDone
  rw [s8_oF t1, s8_g7 t1, Option.bind_some, with_b, Option.bind_some, s8_p7 t1, Option.bind_some]
  refine ⟨_, rfl, ⟨s8_k7 t1 t1 _, ?_, ?_, fun x hx => ?_⟩, ⟨rfl, fun q hq => wF_ne _ _ _ (by omega)⟩⟩
  · rw [fI_wF_ne _ _ _ (show 9 ≠ 7 by decide)]; exact t2
  · rw [fJ_wF_ne _ _ _ (show 6 ≠ 7 by decide)]; exact t3
  · have hw := t4 x hx
    have hx61 := tOk_lt hT (show tPres T x = true from hx)
    rw [s8_v7 t1, fJ_wF_ne _ _ _ (show 8 ≠ 7 by decide), wF_ne _ _ _ (show a + 1 ≠ a by omega), wF_ne _ _ _ (show a + 2 ≠ a by omega), wF_ne _ _ _ (show a + 3 ≠ a by omega), wF_ne _ _ _ (show a + 4 ≠ a by omega), wF_ne _ _ _ (show a + 5 ≠ a by omega), wF_ne _ _ _ (show a + 6 ≠ a by omega)]
    refine ⟨?_, hw.2.1, hw.2.2.1, hw.2.2.2.1, hw.2.2.2.2.1, hw.2.2.2.2.2.1, hw.2.2.2.2.2.2.1, hw.2.2.2.2.2.2.2⟩
    rw [lb_withL _ _ (by omega) (by omega)]
    show _ = pu _ i _ x
    unfold pu
    by_cases c : x = i
    · rw [if_pos c, if_pos c]
    · rw [if_neg c, if_neg c]; exact hw.1

theorem c_setFolded (h : TR S a T) (hT : tOk T) {i : Nat} (hp : tPres T i = true) (v : Int32) : ∃ S', F_X8_setFolded S a (nI i) v = some S' ∧ TR S' a (tSetF T i (decide (v ≠ 0))) ∧ Bk S S' a 7 := by
  have hi := tOk_lt hT hp
  obtain ⟨t1, t2, t3, t4⟩ := h
  unfold F_X8_setFolded
  rw [s8_oF t1, s8_g8 t1, Option.bind_some, with_b, Option.bind_some, s8_p8 t1, Option.bind_some]
  refine ⟨_, rfl, ⟨s8_k8 t1 t1 _, ?_, ?_, fun x hx => ?_⟩, ⟨rfl, fun q hq => wF_ne _ _ _ (by omega)⟩⟩
  · rw [fI_wF_ne _ _ _ (show 9 ≠ 8 by decide)]; exact t2
  · rw [fJ_wF_ne _ _ _ (show 6 ≠ 8 by decide)]; exact t3
  · have hw := t4 x hx
    have hx61 := tOk_lt hT (show tPres T x = true from hx)
    rw [s8_v8 t1, fJ_wF_ne _ _ _ (show 7 ≠ 8 by decide), wF_ne _ _ _ (show a + 1 ≠ a by omega), wF_ne _ _ _ (show a + 2 ≠ a by omega), wF_ne _ _ _ (show a + 3 ≠ a by omega), wF_ne _ _ _ (show a + 4 ≠ a by omega), wF_ne _ _ _ (show a + 5 ≠ a by omega), wF_ne _ _ _ (show a + 6 ≠ a by omega)]
    refine ⟨hw.1, ?_, hw.2.2.1, hw.2.2.2.1, hw.2.2.2.2.1, hw.2.2.2.2.2.1, hw.2.2.2.2.2.2.1, hw.2.2.2.2.2.2.2⟩
    rw [lb_withL _ _ (by omega) (by omega)]
    show _ = pu _ i _ x
    unfold pu
    by_cases c : x = i
    · rw [if_pos c, if_pos c]
    · rw [if_neg c, if_neg c]; exact hw.2.1

/-- a name is written: what the two rows hold then -/
theorem c_setNameR (h : Sh S a sp8) {i l N s k : Nat} {g : Nat → Int32} (hi : i < 61) (hk : k ≤ 10) (hl : l < S.1) (hla : l ≠ a + 3) (hg : S.2 l = .inl (.char, N, .inl g)) (hf : ∀ i, fits .char (.int (g i)) = true) (hN : N < 2 ^ 31) (hs : s + k ≤ N) :
    ∃ S', F_X8_setName S a (nI i) l (nI s) (nI k) = some S' ∧ Sh S' a sp8 ∧ S'.1 = S.1 ∧ (∀ q, q ≠ a + 3 → q ≠ a + 4 → S'.2 q = S.2 q) ∧ cI (S'.2 (a + 3)) = pu (cI (S.2 (a + 3))) i (nI k) ∧ cI (S'.2 (a + 4)) = va_cpy g (cI (S.2 (a + 4))) s (10 * i) k := by
  unfold F_X8_setName
  rw [s8_oF h, s8_g2 h, Option.bind_some, s8_w2 h hi, Option.bind_some]
  have s2 := sh_wI h (a + 3) i (nI k)
  rw [s8_g3 s2, Option.bind_some, li_10, pk_mul, Nat.mul_comm]
  obtain ⟨S', e, h1, h2, h3, h4⟩ := cpy_ok (d := 10 * i) (k := k) (s := s) s2 (j := 4) rfl (by decide) (by decide) hN hl (by rw [wI_ne _ _ _ hla]; exact hg) hf hs (by omega)
  rw [e, Option.bind_some]
  refine ⟨S', rfl, h1, h2, fun q q1 q2 => by rw [h3 q q2, wI_ne _ _ _ q1], ?_, ?_⟩
  · rw [h3 _ (by omega), s8_v2 h]
  · rw [h4, wI_ne _ _ _ (by omega)]
theorem cpy_name {g f : Nat → Int32} {s k i : Nat} {l : List Int32} (hl : l.length = k) (hg : ∀ j x, l[j]? = some x → g (s + j) = x) : ∀ j x, l[j]? = some x → va_cpy g f s (10 * i) k (10 * i + j) = x := by
  intro j x hx
  have := (List.getElem?_eq_some_iff.mp hx).1
  rw [pk_cpy_in (by omega) (by omega), show s + (10 * i + j - 10 * i) = s + j by omega]
  exact hg j x hx
theorem c_setName (h : TR S a T) (hT : tOk T) {i l N s : Nat} {nm : List Int32} {g : Nat → Int32} (hp : tPres T i = true) (hk : nm.length ≤ 10) (hl : l < S.1) (hla : l < a ∨ a + 7 ≤ l) (hg : S.2 l = .inl (.char, N, .inl g)) (hf : ∀ i, fits .char (.int (g i)) = true) (hN : N < 2 ^ 31) (hs : s + nm.length ≤ N) (hx : ∀ j x, nm[j]? = some x → g (s + j) = x) :
    ∃ S', F_X8_setName S a (nI i) l (nI s) (nI nm.length) = some S' ∧ TR S' a (tSetN T i nm) ∧ Bk S S' a 7 := by
  have hi := tOk_lt hT hp
  obtain ⟨t1, t2, t3, t4⟩ := h
  obtain ⟨S', e, h1, h2, h3, h4, h5⟩ := c_setNameR t1 hi hk hl (by omega) hg hf hN hs
  refine ⟨S', e, ⟨h1, ?_, ?_, fun x hx' => ?_⟩, h2, fun q hq => h3 q (by omega) (by omega)⟩
  · rw [h3 a (by omega) (by omega)]; exact t2
  · rw [h3 a (by omega) (by omega)]; exact t3
  · have hw := t4 x hx'
    have hx61 := tOk_lt hT (show tPres T x = true from hx')
    rw [h3 a (by omega) (by omega), h3 (a + 1) (by omega) (by omega), h3 (a + 2) (by omega) (by omega), h3 (a + 5) (by omega) (by omega), h3 (a + 6) (by omega) (by omega), h4, h5]
    refine ⟨hw.1, hw.2.1, hw.2.2.1, hw.2.2.2.1, hw.2.2.2.2.1, hw.2.2.2.2.2.1, ?_, ?_⟩
    · show pu _ i _ x = nI (pu (tName T) i nm x).length
      unfold pu
      by_cases c : x = i
      · rw [if_pos c, if_pos c]
      · rw [if_neg c, if_neg c]; exact hw.2.2.2.2.2.2.1
    · show ∀ j y, (pu (tName T) i nm x)[j]? = some y → _
      by_cases c : x = i
      · subst c
        rw [pu_at]
        exact cpy_name rfl hx
      · rw [pu_ne _ _ _ c]
        intro j y hy
        have hj := (List.getElem?_eq_some_iff.mp hy).1
        have := (hT.2.2.2.2.1 x (show tPres T x = true from hx')).1
        rw [pk_cpy_out (by omega)]
        exact hw.2.2.2.2.2.2.2 j y hy
theorem c_makeItem (h : TR S a T) (hT : tOk T) {l N s : Nat} {nm : List Int32} {g : Nat → Int32} (hm : tMade T < 60) (hk : nm.length ≤ 10) (hl : l < S.1) (hla : l < a ∨ a + 7 ≤ l) (hg : S.2 l = .inl (.char, N, .inl g)) (hf : ∀ i, fits .char (.int (g i)) = true) (hN : N < 2 ^ 31) (hs : s + nm.length ≤ N) (hx : ∀ j x, nm[j]? = some x → g (s + j) = x) :
    ∃ S', F_X8_makeItem S a l (nI s) (nI nm.length) = some (nI (tMade T + 1), S') ∧ TR S' a (tMk T nm) ∧ Bk S S' a 7 := by
  obtain ⟨t1, t2, t3, t4⟩ := h
  unfold F_X8_makeItem
  rw [s8_oF t1, s8_g9 t1, Option.bind_some, t2, nI_1, s8_p9 t1, Option.bind_some]
  have x1 := s8_k9 t1 t1 (nI (tMade T + 1))
  have v19 := s8_v9 t1 (nI (tMade T + 1))
  have v16 : fJ ((wF S a 9 (.int (nI (tMade T + 1)))).2 a) 6 = fJ (S.2 a) 6 := fJ_wF_ne _ _ _ (by decide)
  have v17 : fJ ((wF S a 9 (.int (nI (tMade T + 1)))).2 a) 7 = fJ (S.2 a) 7 := fJ_wF_ne _ _ _ (by decide)
  have v18 : fJ ((wF S a 9 (.int (nI (tMade T + 1)))).2 a) 8 = fJ (S.2 a) 8 := fJ_wF_ne _ _ _ (by decide)
  have o1 : ∀ q, q ≠ a → (wF S a 9 (.int (nI (tMade T + 1)))).2 q = S.2 q := fun q hq => wF_ne _ _ _ hq
  have n1 : (wF S a 9 (.int (nI (tMade T + 1)))).1 = S.1 := rfl
  generalize wF S a 9 (.int (nI (tMade T + 1))) = S1 at *
  rw [s8_g9 x1, Option.bind_some, s8_g6 x1, Option.bind_some, v19, with_1, Option.bind_some, s8_p6 x1, Option.bind_some, v16]
  have x2 := s8_k6 x1 x1 (withL (fJ (S.2 a) 6) (tMade T + 1) true)
  have v26 := s8_v6 x1 (withL (fJ (S.2 a) 6) (tMade T + 1) true)
  have v29 : fI ((wF S1 a 6 (.long (withL (fJ (S.2 a) 6) (tMade T + 1) true))).2 a) 9 = nI (tMade T + 1) := by rw [fI_wF_ne _ _ _ (by decide)]; exact v19
  have v27 : fJ ((wF S1 a 6 (.long (withL (fJ (S.2 a) 6) (tMade T + 1) true))).2 a) 7 = fJ (S.2 a) 7 := by rw [fJ_wF_ne _ _ _ (by decide)]; exact v17
  have v28 : fJ ((wF S1 a 6 (.long (withL (fJ (S.2 a) 6) (tMade T + 1) true))).2 a) 8 = fJ (S.2 a) 8 := by rw [fJ_wF_ne _ _ _ (by decide)]; exact v18
  have o2 : ∀ q, q ≠ a → (wF S1 a 6 (.long (withL (fJ (S.2 a) 6) (tMade T + 1) true))).2 q = S.2 q := fun q hq => (wF_ne _ _ _ hq).trans (o1 q hq)
  have n2 : (wF S1 a 6 (.long (withL (fJ (S.2 a) 6) (tMade T + 1) true))).1 = S.1 := n1
  generalize wF S1 a 6 (.long (withL (fJ (S.2 a) 6) (tMade T + 1) true)) = S2 at *
  rw [s8_g7 x2, Option.bind_some, with_0, Option.bind_some, s8_p7 x2, Option.bind_some, v27]
  have x3 := s8_k7 x2 x2 (withL (fJ (S.2 a) 7) (tMade T + 1) false)
  have v37 := s8_v7 x2 (withL (fJ (S.2 a) 7) (tMade T + 1) false)
  have v39 : fI ((wF S2 a 7 (.long (withL (fJ (S.2 a) 7) (tMade T + 1) false))).2 a) 9 = nI (tMade T + 1) := by rw [fI_wF_ne _ _ _ (by decide)]; exact v29
  have v36 : fJ ((wF S2 a 7 (.long (withL (fJ (S.2 a) 7) (tMade T + 1) false))).2 a) 6 = withL (fJ (S.2 a) 6) (tMade T + 1) true := by rw [fJ_wF_ne _ _ _ (by decide)]; exact v26
  have v38 : fJ ((wF S2 a 7 (.long (withL (fJ (S.2 a) 7) (tMade T + 1) false))).2 a) 8 = fJ (S.2 a) 8 := by rw [fJ_wF_ne _ _ _ (by decide)]; exact v28
  have o3 : ∀ q, q ≠ a → (wF S2 a 7 (.long (withL (fJ (S.2 a) 7) (tMade T + 1) false))).2 q = S.2 q := fun q hq => (wF_ne _ _ _ hq).trans (o2 q hq)
  have n3 : (wF S2 a 7 (.long (withL (fJ (S.2 a) 7) (tMade T + 1) false))).1 = S.1 := n2
  generalize wF S2 a 7 (.long (withL (fJ (S.2 a) 7) (tMade T + 1) false)) = S3 at *
  rw [s8_g8 x3, Option.bind_some, with_0, Option.bind_some, s8_p8 x3, Option.bind_some, v38]
  have x4 := s8_k8 x3 x3 (withL (fJ (S.2 a) 8) (tMade T + 1) false)
  have v48 := s8_v8 x3 (withL (fJ (S.2 a) 8) (tMade T + 1) false)
  have v49 : fI ((wF S3 a 8 (.long (withL (fJ (S.2 a) 8) (tMade T + 1) false))).2 a) 9 = nI (tMade T + 1) := by rw [fI_wF_ne _ _ _ (by decide)]; exact v39
  have v46 : fJ ((wF S3 a 8 (.long (withL (fJ (S.2 a) 8) (tMade T + 1) false))).2 a) 6 = withL (fJ (S.2 a) 6) (tMade T + 1) true := by rw [fJ_wF_ne _ _ _ (by decide)]; exact v36
  have v47 : fJ ((wF S3 a 8 (.long (withL (fJ (S.2 a) 8) (tMade T + 1) false))).2 a) 7 = withL (fJ (S.2 a) 7) (tMade T + 1) false := by rw [fJ_wF_ne _ _ _ (by decide)]; exact v37
  have o4 : ∀ q, q ≠ a → (wF S3 a 8 (.long (withL (fJ (S.2 a) 8) (tMade T + 1) false))).2 q = S.2 q := fun q hq => (wF_ne _ _ _ hq).trans (o3 q hq)
  have n4 : (wF S3 a 8 (.long (withL (fJ (S.2 a) 8) (tMade T + 1) false))).1 = S.1 := n3
  generalize wF S3 a 8 (.long (withL (fJ (S.2 a) 8) (tMade T + 1) false)) = S4 at *
  have hM : tMade T + 1 < 61 := by omega
  rw [s8_g0 x4, Option.bind_some, s8_w0 x4 hM, Option.bind_some]
  have x5 := sh_wI x4 (a + 1) (tMade T + 1) 0
  have v5 := s8_v0 x4 (tMade T + 1) 0
  have o5 : ∀ q, q ≠ a + 1 → (wI S4 (a + 1) (tMade T + 1) 0).2 q = S4.2 q := fun q hq => wI_ne _ _ _ hq
  have n5 : (wI S4 (a + 1) (tMade T + 1) 0).1 = S.1 := n4
  generalize wI S4 (a + 1) (tMade T + 1) 0 = S5 at *
  rw [s8_g4 x5, Option.bind_some, s8_w4 x5 hM, Option.bind_some]
  have x6 := sh_wI x5 (a + 5) (tMade T + 1) 0
  have v6 := s8_v4 x5 (tMade T + 1) 0
  have o6 : ∀ q, q ≠ a + 5 → (wI S5 (a + 5) (tMade T + 1) 0).2 q = S5.2 q := fun q hq => wI_ne _ _ _ hq
  have n6 : (wI S5 (a + 5) (tMade T + 1) 0).1 = S.1 := n5
  generalize wI S5 (a + 5) (tMade T + 1) 0 = S6 at *
  rw [s8_g5 x6, Option.bind_some, s8_w5 x6 hM, Option.bind_some]
  have x7 := sh_wI x6 (a + 6) (tMade T + 1) (-1)
  have v7 := s8_v5 x6 (tMade T + 1) (-1)
  have o7 : ∀ q, q ≠ a + 6 → (wI S6 (a + 6) (tMade T + 1) (-1)).2 q = S6.2 q := fun q hq => wI_ne _ _ _ hq
  have n7 : (wI S6 (a + 6) (tMade T + 1) (-1)).1 = S.1 := n6
  generalize wI S6 (a + 6) (tMade T + 1) (-1) = S7 at *
  obtain ⟨S8, e8, x8, n8, o8, v83, v84⟩ := c_setNameR x7 hM hk (by rw [n7]; exact hl) (by omega) (by rw [o7 _ (by omega), o6 _ (by omega), o5 _ (by omega), o4 _ (by omega)]; exact hg) hf hN hs
  rw [e8, Option.bind_some]
  have oa : S8.2 a = S4.2 a := by rw [o8 a (by omega) (by omega), o7 a (by omega), o6 a (by omega), o5 a (by omega)]
  have c1 : cI (S8.2 (a + 1)) = pu (cI (S.2 (a + 1))) (tMade T + 1) 0 := by rw [o8 _ (by omega) (by omega), o7 _ (by omega), o6 _ (by omega), v5, o4 _ (by omega)]
  have c2 : S8.2 (a + 2) = S.2 (a + 2) := by rw [o8 _ (by omega) (by omega), o7 _ (by omega), o6 _ (by omega), o5 _ (by omega), o4 _ (by omega)]
  have c3 : cI (S8.2 (a + 3)) = pu (cI (S.2 (a + 3))) (tMade T + 1) (nI nm.length) := by rw [v83, o7 _ (by omega), o6 _ (by omega), o5 _ (by omega), o4 _ (by omega)]
  have c4 : cI (S8.2 (a + 4)) = va_cpy g (cI (S.2 (a + 4))) s (10 * (tMade T + 1)) nm.length := by rw [v84, o7 _ (by omega), o6 _ (by omega), o5 _ (by omega), o4 _ (by omega)]
  have c5 : cI (S8.2 (a + 5)) = pu (cI (S.2 (a + 5))) (tMade T + 1) 0 := by rw [o8 _ (by omega) (by omega), o7 _ (by omega), v6, o5 _ (by omega), o4 _ (by omega)]
  have c6 : cI (S8.2 (a + 6)) = pu (cI (S.2 (a + 6))) (tMade T + 1) (-1) := by rw [o8 _ (by omega) (by omega), v7, o6 _ (by omega), o5 _ (by omega), o4 _ (by omega)]
  refine ⟨S8, rfl, ⟨x8, ?_, fun x hx64 => ?_, fun x hxp => ?_⟩, n8.trans n7, fun q hq => ?_⟩
  · rw [oa]; exact v49
  · rw [oa, v46, lb_withL _ _ (by omega) hx64]
    show _ = pu (tPres T) (tMade T + 1) true x
    unfold pu
    by_cases c : x = tMade T + 1
    · rw [if_pos c, if_pos c]
    · rw [if_neg c, if_neg c]; exact t3 x hx64
  · rw [oa, v47, v48, c1, c2, c3, c4, c5, c6]
    by_cases c : x = tMade T + 1
    · subst c
      rw [lb_withL _ _ (by omega) (by omega), lb_withL _ _ (by omega) (by omega), if_pos rfl, if_pos rfl, pu_at, pu_at, pu_at, pu_at]
      refine ⟨(pu_at _ _ _).symm, (pu_at _ _ _).symm, (pu_at _ _ _).symm, (pu_at _ _ _).symm, ?_, fun j y hy => ?_, ?_, ?_⟩
      · show _ = nI (pu (tKids T) _ [] _).length
        rw [pu_at]; rfl
      · have : (pu (tKids T) (tMade T + 1) [] (tMade T + 1))[j]? = some y := hy
        rw [pu_at] at this
        cases this
      · show _ = nI (pu (tName T) _ nm _).length
        rw [pu_at]
      · show ∀ j y, (pu (tName T) (tMade T + 1) nm (tMade T + 1))[j]? = some y → _
        rw [pu_at]
        exact cpy_name rfl hx
    · have hxp' : tPres T x = true := by
        have : pu (tPres T) (tMade T + 1) true x = true := hxp
        rw [pu_ne _ _ _ c] at this
        exact this
      have hw := t4 x hxp'
      have hx61 := tOk_lt hT hxp'
      rw [lb_withL _ _ (by omega) (by omega), lb_withL _ _ (by omega) (by omega), if_neg c, if_neg c, pu_ne _ _ _ c, pu_ne _ _ _ c, pu_ne _ _ _ c, pu_ne _ _ _ c]
      have k1 : tKids (tMk T nm) x = tKids T x := pu_ne _ _ _ c
      have k2 : tName (tMk T nm) x = tName T x := pu_ne _ _ _ c
      have k3 : tDone (tMk T nm) x = tDone T x := pu_ne _ _ _ c
      have k4 : tFold (tMk T nm) x = tFold T x := pu_ne _ _ _ c
      have k5 : tVal (tMk T nm) x = tVal T x := pu_ne _ _ _ c
      have k6 : tDay (tMk T nm) x = tDay T x := pu_ne _ _ _ c
      rw [k1, k2, k3, k4, k5, k6]
      refine ⟨hw.1, hw.2.1, hw.2.2.1, hw.2.2.2.1, hw.2.2.2.2.1, hw.2.2.2.2.2.1, hw.2.2.2.2.2.2.1, fun j y hy => ?_⟩
      have hj := (List.getElem?_eq_some_iff.mp hy).1
      have := (hT.2.2.2.2.1 x hxp').1
      rw [pk_cpy_out (by omega)]
      exact hw.2.2.2.2.2.2.2 j y hy
  · rw [o8 q (by omega) (by omega), o7 q (by omega), o6 q (by omega), o5 q (by omega), o4 q (by omega)]
end SETS
