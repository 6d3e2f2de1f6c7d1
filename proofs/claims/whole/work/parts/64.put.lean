/-! children are put and taken away: the outline's own -/
def tWk (T : Tr) (K : Nat → List Nat) : Tr := (tMade T, tPres T, tVal T, tDay T, tDone T, tFold T, tName T, K)
def tPut (T : Tr) (p k c : Nat) : Tr := tWk T (pu (tKids T) p ((tKids T p).insertIdx k c))
def tPull (T : Tr) (p k : Nat) : Tr := tWk T (pu (tKids T) p ((tKids T p).eraseIdx k))
section PUT
variable {S : pS} {a m : Nat} {T : Tr}
theorem put_kids (T : Tr) (p k c i : Nat) : tKids (tPut T p k c) i = if i = p then (tKids T p).insertIdx k c else tKids T i := rfl
theorem pull_kids (T : Tr) (p k i : Nat) : tKids (tPull T p k) i = if i = p then (tKids T p).eraseIdx k else tKids T i := rfl
/-- a block's frame: only the n cells from a on may differ, none is new -/
def Bk (S S' : pS) (a n : Nat) : Prop := S'.1 = S.1 ∧ ∀ q, q < a ∨ a + n ≤ q → S'.2 q = S.2 q
theorem Bk_refl (S : pS) (a n : Nat) : Bk S S a n := ⟨rfl, fun _ _ => rfl⟩
theorem Bk_trans {S1 S2 : pS} {n : Nat} (h : Bk S S1 a n) (h2 : Bk S1 S2 a n) : Bk S S2 a n := ⟨h2.1.trans h.1, fun q hq => (h2.2 q hq).trans (h.2 q hq)⟩
theorem c_put_entries {f g : Nat → Int32} {l : List Nat} {k c fr : Nat} (hk : k ≤ l.length) (hf : ∀ j x, l[j]? = some x → f (fr + j) = nI x) (hg : ∀ j, g j = if j = fr + k then nI c else if fr + k < j ∧ j ≤ fr + l.length then f (j - 1) else f j) : ∀ j x, (l.insertIdx k c)[j]? = some x → g (fr + j) = nI x := by
  intro j x hx
  rw [List.getElem?_insertIdx] at hx
  rw [hg]
  by_cases c1 : j < k
  · rw [if_pos c1] at hx
    rw [if_neg (by omega), if_neg (by omega)]
    exact hf j x hx
  · rw [if_neg c1] at hx
    by_cases c2 : j = k
    · rw [if_pos c2, if_pos (by omega)] at hx
      rw [if_pos (by omega)]
      rw [Option.some.inj hx]
    · rw [if_neg c2] at hx
      have hl := (List.getElem?_eq_some_iff.mp hx).1
      rw [if_neg (by omega), if_pos (by omega), show fr + j - 1 = fr + (j - 1) by omega]
      exact hf (j - 1) x hx
theorem c_pull_entries {f g : Nat → Int32} {l : List Nat} {k fr : Nat} (hk : k < l.length) (hf : ∀ j x, l[j]? = some x → f (fr + j) = nI x) (hg : ∀ j, fr ≤ j → g j = if fr + k ≤ j ∧ j < fr + (l.length - 1) then f (j + 1) else f j) : ∀ j x, (l.eraseIdx k)[j]? = some x → g (fr + j) = nI x := by
  intro j x hx
  have hl := (List.getElem?_eq_some_iff.mp hx).1
  rw [List.length_eraseIdx_of_lt hk] at hl
  rw [List.getElem?_eraseIdx] at hx
  rw [hg _ (by omega)]
  by_cases c1 : j < k
  · rw [if_pos c1] at hx
    rw [if_neg (by omega)]
    exact hf j x hx
  · rw [if_neg c1] at hx
    rw [if_pos (by omega), show fr + j + 1 = fr + (j + 1) by omega]
    exact hf (j + 1) x hx
theorem c_insert (h : TR S a T) (hT : tOk T) {p k c : Nat} (hp : tPres T p = true) (hk : k ≤ (tKids T p).length) (hl : (tKids T p).length < 12) : ∃ S', F_X8_insertChild S a (nI p) (nI k) (nI c) = some S' ∧ TR S' a (tPut T p k c) ∧ Bk S S' a 7 := by
  have hp61 := tOk_lt hT hp
  obtain ⟨t1, t2, t3, t4⟩ := h
  obtain ⟨u1, u2, u3, u4, u5, u6, u7, u8⟩ := t4 p hp
  unfold F_X8_insertChild
  rw [s8_oF t1, s8_g0 t1, Option.bind_some, s8_r0 t1 hp61, Option.bind_some, u5, li_12, pk_mul, Nat.mul_comm]
  obtain ⟨S1, e1, h1, n1, o1, v1⟩ := c_insL t1 (nI p) (nI c) (fr := 12 * p) hk (by omega)
  rw [e1, Option.bind_some, s8_g1 h1, Option.bind_some, nI_add, s8_w1 h1 (by omega), Option.bind_some]
  have h2 := sh_wI h1 (a + 2) (12 * p + k) (nI c)
  have v2 := s8_v1 h1 (12 * p + k) (nI c)
  have o2 : ∀ q, q ≠ a + 2 → (wI S1 (a + 2) (12 * p + k) (nI c)).2 q = S.2 q := fun q hq => by rw [wI_ne _ _ _ hq]; exact o1 q hq
  have n2 : (wI S1 (a + 2) (12 * p + k) (nI c)).1 = S.1 := n1
  generalize wI S1 (a + 2) (12 * p + k) (nI c) = S2 at *
  rw [s8_g0 h2, Option.bind_some, s8_r0 h2 hp61, Option.bind_some, o2 (a + 1) (by omega), u5, nI_1, s8_w0 h2 hp61, Option.bind_some]
  have h3 := sh_wI h2 (a + 1) p (nI ((tKids T p).length + 1))
  have v3 := s8_v0 h2 p (nI ((tKids T p).length + 1))
  have o3 : ∀ q, q ≠ a + 1 → (wI S2 (a + 1) p (nI ((tKids T p).length + 1))).2 q = S2.2 q := fun q hq => wI_ne _ _ _ hq
  have n3 : (wI S2 (a + 1) p (nI ((tKids T p).length + 1))).1 = S.1 := n2
  generalize wI S2 (a + 1) p (nI ((tKids T p).length + 1)) = S3 at *
  refine ⟨S3, rfl, ⟨h3, ?_, ?_, fun i hi => ?_⟩, n3, fun q hq => ?_⟩
  · rw [o3 a (by omega), o2 a (by omega)]; exact t2
  · rw [o3 a (by omega), o2 a (by omega)]; exact t3
  · obtain ⟨w1, w2, w3, w4, w5, w6, w7, w8⟩ := t4 i hi
    have hi61 := tOk_lt hT hi
    rw [o3 a (by omega), o2 a (by omega), o3 (a + 5) (by omega), o2 (a + 5) (by omega), o3 (a + 6) (by omega), o2 (a + 6) (by omega), o3 (a + 3) (by omega), o2 (a + 3) (by omega), o3 (a + 4) (by omega), o2 (a + 4) (by omega), v3, o3 (a + 2) (by omega), put_kids]
    refine ⟨w1, w2, w3, w4, ?_, ?_, w7, w8⟩
    · by_cases e : i = p
      · rw [if_pos e, e, pu_at, List.length_insertIdx_of_le_length hk]
      · rw [if_neg e, pu_ne _ _ _ e, o2 (a + 1) (by omega)]; exact w5
    · by_cases e : i = p
      · subst e
        rw [if_pos rfl]
        refine c_put_entries hk u6 (fun j => ?_)
        rw [v2]
        by_cases c9 : j = 12 * i + k
        · rw [if_pos c9, c9, pu_at]
        · rw [if_neg c9, pu_ne _ _ _ c9, v1]
      · rw [if_neg e]
        intro j x hx
        have hj := (List.getElem?_eq_some_iff.mp hx).1
        have hj12 := (hT.2.2.2.1 i hi).1
        rw [v2, pu_ne _ _ _ (by omega), v1, if_neg (by omega)]
        exact w6 j x hx
  · rw [o3 q (by omega), o2 q (by omega)]
theorem c_remove (h : TR S a T) (hT : tOk T) {p k : Nat} (hp : tPres T p = true) (hk : k < (tKids T p).length) : ∃ S', F_X8_removeChild S a (nI p) (nI k) = some S' ∧ TR S' a (tPull T p k) ∧ Bk S S' a 7 := by
  have hp61 := tOk_lt hT hp
  have hl := (hT.2.2.2.1 p hp).1
  obtain ⟨t1, t2, t3, t4⟩ := h
  obtain ⟨u1, u2, u3, u4, u5, u6, u7, u8⟩ := t4 p hp
  obtain ⟨n, hn⟩ : ∃ n, (tKids T p).length = n + 1 := ⟨(tKids T p).length - 1, by omega⟩
  unfold F_X8_removeChild
  rw [s8_oF t1, s8_g0 t1, Option.bind_some, s8_r0 t1 hp61, Option.bind_some, u5, hn, nI_pred, s8_w0 t1 hp61, Option.bind_some, li_12, pk_mul, Nat.mul_comm]
  have h2 := sh_wI t1 (a + 1) p (nI n)
  have v2 := s8_v0 t1 p (nI n)
  have o2 : ∀ q, q ≠ a + 1 → (wI S (a + 1) p (nI n)).2 q = S.2 q := fun q hq => wI_ne _ _ _ hq
  have n2 : (wI S (a + 1) p (nI n)).1 = S.1 := rfl
  generalize wI S (a + 1) p (nI n) = S2 at *
  obtain ⟨S3, e3, h3, n3, o3, v3⟩ := c_remL h2 (p := p) (fr := 12 * p) (k := k) (cnt := n) (by omega) (by omega) hp61 (by rw [v2, pu_at])
  rw [e3, Option.bind_some]
  refine ⟨S3, rfl, ⟨h3, ?_, ?_, fun i hi => ?_⟩, n3.trans n2, fun q hq => ?_⟩
  · rw [o3 a (by omega), o2 a (by omega)]; exact t2
  · rw [o3 a (by omega), o2 a (by omega)]; exact t3
  · obtain ⟨w1, w2, w3, w4, w5, w6, w7, w8⟩ := t4 i hi
    have hi61 := tOk_lt hT hi
    rw [o3 a (by omega), o2 a (by omega), o3 (a + 5) (by omega), o2 (a + 5) (by omega), o3 (a + 6) (by omega), o2 (a + 6) (by omega), o3 (a + 3) (by omega), o2 (a + 3) (by omega), o3 (a + 4) (by omega), o2 (a + 4) (by omega), o3 (a + 1) (by omega), v2, pull_kids]
    refine ⟨w1, w2, w3, w4, ?_, ?_, w7, w8⟩
    · by_cases e : i = p
      · rw [if_pos e, e, pu_at, List.length_eraseIdx_of_lt hk, hn]; rfl
      · rw [if_neg e, pu_ne _ _ _ e]; exact w5
    · by_cases e : i = p
      · subst e
        rw [if_pos rfl]
        refine c_pull_entries hk u6 (fun j _ => ?_)
        rw [v3, o2 (a + 2) (by omega), hn]; rfl
      · rw [if_neg e]
        intro j x hx
        have hj := (List.getElem?_eq_some_iff.mp hx).1
        have hj12 := (hT.2.2.2.1 i hi).1
        rw [v3, if_neg (by omega), o2 (a + 2) (by omega)]
        exact w6 j x hx
  · rw [o3 q (by omega), o2 q (by omega)]
theorem r_puts (h : RR S m T) (hT : tOk T) {p k c : Nat} (hp : tPres T p = true) (hk : k ≤ (tKids T p).length) (hl : (tKids T p).length < 12) : ∃ S', F_X10_puts S m (nI p) (nI k) (nI c) = some S' ∧ RR S' m (tPut T p k c) ∧ MR S S' m [1] [] := by
  have hp61 := tOk_lt hT hp
  obtain ⟨t1, t2, t3, t4⟩ := h
  obtain ⟨u1, u2, u3, u4, u5, u6, u7⟩ := t4 p hp
  unfold F_X10_puts
  rw [s10_oF t1, s10_g1 t1, Option.bind_some, li_916, nI_add, s10_r1 t1 (by omega), Option.bind_some, u6, li_977, li_12, pk_mul, nI_add]
  obtain ⟨S1, e1, h1, n1, o1, v1⟩ := r_insL t1 (nI p) (nI c) (fr := 977 + 12 * p) hk (by omega)
  rw [e1, Option.bind_some, s10_g1 h1, Option.bind_some, nI_add, s10_w1 h1 (by omega), Option.bind_some]
  have h2 := sh_wI h1 (m + 1) (977 + 12 * p + k) (nI c)
  have v2 := s10_v1 h1 (977 + 12 * p + k) (nI c)
  have o2 : ∀ q, q ≠ m + 1 → (wI S1 (m + 1) (977 + 12 * p + k) (nI c)).2 q = S.2 q := fun q hq => by rw [wI_ne _ _ _ hq]; exact o1 q hq
  have n2 : (wI S1 (m + 1) (977 + 12 * p + k) (nI c)).1 = S.1 := n1
  generalize wI S1 (m + 1) (977 + 12 * p + k) (nI c) = S2 at *
  have hcnt : cI (S2.2 (m + 1)) (916 + p) = nI (tKids T p).length := by rw [v2, pu_ne _ _ _ (by omega), v1, if_neg (by omega)]; exact u6
  rw [s10_g1 h2, Option.bind_some, s10_r1 h2 (by omega), Option.bind_some, hcnt, nI_1, s10_w1 h2 (by omega), Option.bind_some]
  have h3 := sh_wI h2 (m + 1) (916 + p) (nI ((tKids T p).length + 1))
  have v3 := s10_v1 h2 (916 + p) (nI ((tKids T p).length + 1))
  have o3 : ∀ q, q ≠ m + 1 → (wI S2 (m + 1) (916 + p) (nI ((tKids T p).length + 1))).2 q = S.2 q := fun q hq => by rw [wI_ne _ _ _ hq]; exact o2 q hq
  have n3 : (wI S2 (m + 1) (916 + p) (nI ((tKids T p).length + 1))).1 = S.1 := n2
  generalize wI S2 (m + 1) (916 + p) (nI ((tKids T p).length + 1)) = S3 at *
  have lo : ∀ j, j < 977 → j ≠ 916 + p → cI (S3.2 (m + 1)) j = cI (S.2 (m + 1)) j := fun j hj hq => by
    rw [v3, pu_ne _ _ _ hq, v2, pu_ne _ _ _ (by omega), v1, if_neg (by omega)]
  refine ⟨S3, rfl, ⟨h3, ?_, ?_, fun i hi => ?_⟩, MR_ofQ h3 n3 o3 (by decide) (by decide)⟩
  · rw [lo 0 (by omega) (by omega)]; exact t2
  · intro i hi
    rw [lo _ (by omega) (by omega)]; exact t3 i hi
  · obtain ⟨w1, w2, w3, w4, w5, w6, w7⟩ := t4 i hi
    have hi61 := tOk_lt hT hi
    rw [lo _ (by omega) (by omega), lo _ (by omega) (by omega), lo _ (by omega) (by omega), lo _ (by omega) (by omega), put_kids]
    refine ⟨w1, w2, w3, w4, fun j x hx => ?_, ?_, ?_⟩
    · have hj := (List.getElem?_eq_some_iff.mp hx).1
      have hj10 := (hT.2.2.2.2.1 i hi).1
      have hj : j < (tName T i).length := hj
      rw [lo _ (by omega) (by omega)]
      exact w5 j x hx
    · by_cases e : i = p
      · rw [if_pos e, e, v3, pu_at, List.length_insertIdx_of_le_length hk]
      · rw [if_neg e, lo _ (by omega) (by omega)]; exact w6
    · by_cases e : i = p
      · subst e
        rw [if_pos rfl]
        intro j x hx
        have := c_put_entries (f := cI (S.2 (m + 1))) (g := cI (S2.2 (m + 1))) (fr := 977 + 12 * i) hk (fun j x hx => by rw [show 977 + 12 * i + j = 977 + (12 * i + j) by omega]; exact u7 j x hx) (fun j => by
          rw [v2]
          by_cases c9 : j = 977 + 12 * i + k
          · rw [if_pos c9, c9, pu_at]
          · rw [if_neg c9, pu_ne _ _ _ c9, v1]) j x hx
        rw [v3, pu_ne _ _ _ (by omega), show 977 + (12 * i + j) = 977 + 12 * i + j by omega]
        exact this
      · rw [if_neg e]
        intro j x hx
        have hj := (List.getElem?_eq_some_iff.mp hx).1
        have hj12 := (hT.2.2.2.1 i hi).1
        rw [v3, pu_ne _ _ _ (by omega), v2, pu_ne _ _ _ (by omega), v1, if_neg (by omega)]
        exact w7 j x hx
theorem r_pulls (h : RR S m T) (hT : tOk T) {p k c : Nat} (hp : tPres T p = true) (hk : (tKids T p)[k]? = some c) : ∃ S', F_X10_pulls S m (nI p) (nI k) = some (nI c, S') ∧ RR S' m (tPull T p k) ∧ MR S S' m [1] [] := by
  have hp61 := tOk_lt hT hp
  have hl := (hT.2.2.2.1 p hp).1
  have hkl := (List.getElem?_eq_some_iff.mp hk).1
  obtain ⟨t1, t2, t3, t4⟩ := h
  obtain ⟨u1, u2, u3, u4, u5, u6, u7⟩ := t4 p hp
  obtain ⟨n, hn⟩ : ∃ n, (tKids T p).length = n + 1 := ⟨(tKids T p).length - 1, by omega⟩
  unfold F_X10_pulls
  rw [s10_oF t1, s10_g1 t1, Option.bind_some, li_977, li_12, pk_mul, nI_add, nI_add, s10_r1 t1 (by omega), Option.bind_some, Option.bind_some, li_916, nI_add, s10_r1 t1 (by omega), Option.bind_some, u6, hn, nI_pred, s10_w1 t1 (by omega), Option.bind_some, show 977 + 12 * p + k = 977 + (12 * p + k) by omega, u7 k c hk]
  have h2 := sh_wI t1 (m + 1) (916 + p) (nI n)
  have v2 := s10_v1 t1 (916 + p) (nI n)
  have o2 : ∀ q, q ≠ m + 1 → (wI S (m + 1) (916 + p) (nI n)).2 q = S.2 q := fun q hq => wI_ne _ _ _ hq
  have n2 : (wI S (m + 1) (916 + p) (nI n)).1 = S.1 := rfl
  generalize wI S (m + 1) (916 + p) (nI n) = S2 at *
  obtain ⟨S3, e3, h3, n3, o3, v3⟩ := r_remL h2 (nI c) (p := p) (fr := 977 + 12 * p) (k := k) (cnt := n) (by omega) (by omega) (by omega) (by rw [v2, pu_at])
  rw [e3, Option.bind_some]
  have lo : ∀ j, j < 977 → j ≠ 916 + p → cI (S3.2 (m + 1)) j = cI (S.2 (m + 1)) j := fun j hj hq => by
    rw [v3, if_neg (by omega), v2, pu_ne _ _ _ hq]
  refine ⟨S3, rfl, ⟨h3, ?_, ?_, fun i hi => ?_⟩, MR_ofQ h3 (n3.trans n2) (fun q hq => (o3 q hq).trans (o2 q hq)) (by decide) (by decide)⟩
  · rw [lo 0 (by omega) (by omega)]; exact t2
  · intro i hi
    rw [lo _ (by omega) (by omega)]; exact t3 i hi
  · obtain ⟨w1, w2, w3, w4, w5, w6, w7⟩ := t4 i hi
    have hi61 := tOk_lt hT hi
    rw [lo _ (by omega) (by omega), lo _ (by omega) (by omega), lo _ (by omega) (by omega), lo _ (by omega) (by omega), pull_kids]
    refine ⟨w1, w2, w3, w4, fun j x hx => ?_, ?_, ?_⟩
    · have hj := (List.getElem?_eq_some_iff.mp hx).1
      have hj10 := (hT.2.2.2.2.1 i hi).1
      have hj : j < (tName T i).length := hj
      rw [lo _ (by omega) (by omega)]
      exact w5 j x hx
    · by_cases e : i = p
      · rw [if_pos e, e, v3, if_neg (by omega), v2, pu_at, List.length_eraseIdx_of_lt hkl, hn]; rfl
      · rw [if_neg e, lo _ (by omega) (by omega)]; exact w6
    · by_cases e : i = p
      · subst e
        rw [if_pos rfl]
        intro j x hx
        have := c_pull_entries (f := cI (S.2 (m + 1))) (g := cI (S3.2 (m + 1))) (fr := 977 + 12 * i) hkl (fun j x hx => by rw [show 977 + 12 * i + j = 977 + (12 * i + j) by omega]; exact u7 j x hx) (fun j hj => by
          rw [v3, hn, v2, Nat.add_sub_cancel]
          by_cases c9 : 977 + 12 * i + k ≤ j ∧ j < 977 + 12 * i + n
          · rw [if_pos c9, if_pos c9, pu_ne _ _ _ (by omega)]
          · rw [if_neg c9, if_neg c9, pu_ne _ _ _ (by omega)]) j x hx
        rw [show 977 + (12 * i + j) = 977 + 12 * i + j by omega]
        exact this
      · rw [if_neg e]
        intro j x hx
        have hj := (List.getElem?_eq_some_iff.mp hx).1
        have hj12 := (hT.2.2.2.1 i hi).1
        rw [v3, if_neg (by omega), v2, pu_ne _ _ _ (by omega)]
        exact w7 j x hx
end PUT
