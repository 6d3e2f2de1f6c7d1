/-! the reference's row is written -/
theorem row_copy {F : Int32 × pS → Option ((Int32 × pS) ⊕ pS)} {S : pS} {m e src dst : Nat} {fs fd : Nat → Nat} (h : Sh S m sp10) (hd0 : dst ≠ 0) (hd4 : dst < 41) (he : e < 1000000)
    (hv : ∀ S1, Sh S1 m sp10 → ∀ i v, cI ((wI S1 (m + dst) i v).2 (m + dst)) = pu (cI (S1.2 (m + dst))) i v)
    (hinj : ∀ i i', i < e → i' < i → fd i' ≠ fd i) (hsrc : ∀ i i', i' < i → i < e → src = dst → fd i' ≠ fs i) (hs0 : src ≠ 0)
    (hF : ∀ i S1, i < e → Sh S1 m sp10 → (∀ k, fI (S1.2 m) k = fI (S.2 m) k) → F (nI i, S1) = some (.inl (nI (i + 1), wI S1 (m + dst) (fd i) (cI (S1.2 (m + src)) (fs i)))))
    (hE : ∀ S1, Sh S1 m sp10 → F (nI e, S1) = some (.inr S1)) :
    ∃ S', iter F fu ((0 : Int32), S) = some S' ∧ MR S S' m [dst] [] ∧ (∀ i, i < e → cI (S'.2 (m + dst)) (fd i) = cI (S.2 (m + src)) (fs i)) ∧ ∀ j, (∀ i, i < e → j ≠ fd i) → cI (S'.2 (m + dst)) j = cI (S.2 (m + dst)) j := by
  refine iter_fu (F := F) (s := ((0 : Int32), S)) (fun i s => s.1 = nI i ∧ MR S s.2 m [dst] [] ∧ (∀ i', i' < i → cI (s.2.2 (m + dst)) (fd i') = cI (S.2 (m + src)) (fs i')) ∧ ∀ j, (∀ i', i' < i → j ≠ fd i') → cI (s.2.2 (m + dst)) j = cI (S.2 (m + dst)) j) e he ⟨rfl, MR_refl h _ _, fun _ hi => absurd hi (Nat.not_lt_zero _), fun _ _ => rfl⟩ ?_ ?_
  · rintro ⟨b, S1⟩ ⟨h1, h2, h3, h4⟩
    dsimp only at h1 h2 h3 h4
    subst h1
    exact ⟨_, hE S1 h2.1, h2, h3, h4⟩
  · rintro i ⟨b, S1⟩ hi ⟨h1, h2, h3, h4⟩
    dsimp only at h1 h2 h3 h4
    subst h1
    have hsv : cI (S1.2 (m + src)) (fs i) = cI (S.2 (m + src)) (fs i) := by
      by_cases c : src = dst
      · rw [c]
        exact h4 _ (fun i' hi' e => hsrc i i' hi' hi c e.symm)
      · rw [h2.2.2.2.1 src (by rw [List.mem_singleton]; exact c) hs0]
    refine ⟨_, hF i S1 hi h2.1 (fun k => h2.2.2.2.2 k (by simp)), rfl, MR_I h2 (by simp) hd0 hd4 _ _, fun i' hi' => ?_, fun j hj => ?_⟩
    · dsimp only
      rw [hv S1 h2.1]
      by_cases c : i' = i
      · rw [c, pu_at, hsv]
      · rw [pu_ne _ _ _ (hinj i i' hi (by omega))]
        exact h3 i' (by omega)
    · dsimp only
      rw [hv S1 h2.1, pu_ne _ _ _ (hj i (by omega))]
      exact h4 j (fun i' hi' => hj i' (by omega))
section RSETS
variable {S : pS} {m : Nat} {T : Tr}
theorem tMk_made (T : Tr) (l : List Int32) : tMade (tMk T l) = tMade T + 1 := rfl
/-- the row behind makes -/
def mkf (g : Nat → Int32) (M : Nat) : Nat → Int32 := pu (pu (pu (pu (pu (pu g 0 (nI M)) (1 + M) 1) (62 + M) 0) (123 + M) (-1)) (184 + M) 0) (916 + M) 0
theorem r_makes (h : Sh S m sp10) {M : Nat} (hM : M < 60) (h0 : cI (S.2 (m + 1)) 0 = nI M) : ∃ S', F_X10_makes S m = some (nI (M + 1), S') ∧ MR S S' m [1] [] ∧ cI (S'.2 (m + 1)) = mkf (cI (S.2 (m + 1))) (M + 1) := by
  unfold F_X10_makes
  rw [s10_oF h, s10_g1 h, Option.bind_some, li_0, s10_r1 h (by decide), Option.bind_some, h0, s10_w1 h (by decide), Option.bind_some]
  have x1 := sh_wI h (m + 1) 0 (nI M + 1)
  have v1 := s10_v1 h 0 (nI M + 1)
  have o1 : ∀ q, q ≠ m + 1 → (wI S (m + 1) 0 (nI M + 1)).2 q = S.2 q := fun q hq => wI_ne _ _ _ hq
  have n1 : (wI S (m + 1) 0 (nI M + 1)).1 = S.1 := rfl
  generalize wI S (m + 1) 0 (nI M + 1) = S1 at *
  rw [s10_g1 x1, Option.bind_some, s10_r1 x1 (by decide), Option.bind_some, v1, pu_at, nI_1, Option.bind_some, nI_1l, s10_w1 x1 (by omega), Option.bind_some]
  rw [nI_1] at v1
  have x2 := sh_wI x1 (m + 1) (1 + (M + 1)) 1
  have v2 := s10_v1 x1 (1 + (M + 1)) 1
  have o2 : ∀ q, q ≠ m + 1 → (wI S1 (m + 1) (1 + (M + 1)) 1).2 q = S.2 q := fun q hq => (wI_ne _ _ _ hq).trans (o1 q hq)
  have n2 : (wI S1 (m + 1) (1 + (M + 1)) 1).1 = S.1 := n1
  generalize wI S1 (m + 1) (1 + (M + 1)) 1 = S2 at *
  rw [s10_g1 x2, Option.bind_some, li_62, nI_add, s10_w1 x2 (by omega), Option.bind_some]
  have x3 := sh_wI x2 (m + 1) (62 + (M + 1)) (nI 0)
  have v3 := s10_v1 x2 (62 + (M + 1)) (nI 0)
  have o3 : ∀ q, q ≠ m + 1 → (wI S2 (m + 1) (62 + (M + 1)) (nI 0)).2 q = S.2 q := fun q hq => (wI_ne _ _ _ hq).trans (o2 q hq)
  have n3 : (wI S2 (m + 1) (62 + (M + 1)) (nI 0)).1 = S.1 := n2
  generalize wI S2 (m + 1) (62 + (M + 1)) (nI 0) = S3 at *
  rw [s10_g1 x3, Option.bind_some, li_123, nI_add, s10_w1 x3 (by omega), Option.bind_some]
  have x4 := sh_wI x3 (m + 1) (123 + (M + 1)) (-1)
  have v4 := s10_v1 x3 (123 + (M + 1)) (-1)
  have o4 : ∀ q, q ≠ m + 1 → (wI S3 (m + 1) (123 + (M + 1)) (-1)).2 q = S.2 q := fun q hq => (wI_ne _ _ _ hq).trans (o3 q hq)
  have n4 : (wI S3 (m + 1) (123 + (M + 1)) (-1)).1 = S.1 := n3
  generalize wI S3 (m + 1) (123 + (M + 1)) (-1) = S4 at *
  rw [s10_g1 x4, Option.bind_some, li_184, nI_add, s10_w1 x4 (by omega), Option.bind_some]
  have x5 := sh_wI x4 (m + 1) (184 + (M + 1)) (nI 0)
  have v5 := s10_v1 x4 (184 + (M + 1)) (nI 0)
  have o5 : ∀ q, q ≠ m + 1 → (wI S4 (m + 1) (184 + (M + 1)) (nI 0)).2 q = S.2 q := fun q hq => (wI_ne _ _ _ hq).trans (o4 q hq)
  have n5 : (wI S4 (m + 1) (184 + (M + 1)) (nI 0)).1 = S.1 := n4
  generalize wI S4 (m + 1) (184 + (M + 1)) (nI 0) = S5 at *
  rw [s10_g1 x5, Option.bind_some, li_916, nI_add, s10_w1 x5 (by omega), Option.bind_some]
  have x6 := sh_wI x5 (m + 1) (916 + (M + 1)) (nI 0)
  have v6 := s10_v1 x5 (916 + (M + 1)) (nI 0)
  have o6 : ∀ q, q ≠ m + 1 → (wI S5 (m + 1) (916 + (M + 1)) (nI 0)).2 q = S.2 q := fun q hq => (wI_ne _ _ _ hq).trans (o5 q hq)
  have n6 : (wI S5 (m + 1) (916 + (M + 1)) (nI 0)).1 = S.1 := n5
  refine ⟨_, rfl, MR_ofQ x6 n6 o6 (by decide) (by decide), ?_⟩
  rw [v6, v5, v4, v3, v2, v1]
  rfl
theorem mkf_at {g : Nat → Int32} {M j : Nat} (h0 : j ≠ 0) (h1 : j ≠ 1 + M) (h2 : j ≠ 62 + M) (h3 : j ≠ 123 + M) (h4 : j ≠ 184 + M) (h5 : j ≠ 916 + M) : mkf g M j = g j := by
  unfold mkf
  rw [pu_ne _ _ _ h5, pu_ne _ _ _ h4, pu_ne _ _ _ h3, pu_ne _ _ _ h2, pu_ne _ _ _ h1, pu_ne _ _ _ h0]
/-- a name is written -/
def nmf (g : Nat → Int32) (i : Nat) (nm : List Int32) : Nat → Int32 := fun j => if 306 + 10 * i ≤ j ∧ j < 306 + 10 * i + nm.length then nm.getD (j - (306 + 10 * i)) 0 else if j = 245 + i then nI nm.length else g j
theorem r_names (h : Sh S m sp10) {i fr : Nat} {nm : List Int32} (hi : i < 61) (hk : nm.length ≤ 10) (hfr : fr + nm.length ≤ 80) (hx : ∀ j x, nm[j]? = some x → cI (S.2 (m + 6)) (fr + j) = x) : ∃ S', F_X10_names S m (nI i) (nI fr) (nI (fr + nm.length)) = some S' ∧ MR S S' m [1] [] ∧ cI (S'.2 (m + 1)) = nmf (cI (S.2 (m + 1))) i nm := by
  unfold F_X10_names
  rw [s10_oF h, s10_g1 h, Option.bind_some, li_245, nI_add, pk_sub (Nat.le_add_right _ _), Nat.add_sub_cancel_left, s10_w1 h (by omega), Option.bind_some]
  have x1 := sh_wI h (m + 1) (245 + i) (nI nm.length)
  have v1 := s10_v1 h (245 + i) (nI nm.length)
  have o1 : ∀ q, q ≠ m + 1 → (wI S (m + 1) (245 + i) (nI nm.length)).2 q = S.2 q := fun q hq => wI_ne _ _ _ hq
  have n1 : (wI S (m + 1) (245 + i) (nI nm.length)).1 = S.1 := rfl
  generalize wI S (m + 1) (245 + i) (nI nm.length) = S1 at *
  obtain ⟨S', e, h2, h3⟩ := iter_fu (F := F_X10_names_16 m (nI i) (nI fr) (nI (fr + nm.length))) (s := (nI fr, S1)) (fun t s => s.1 = nI (fr + t) ∧ MR S1 s.2 m [1] [] ∧ ∀ j, cI (s.2.2 (m + 1)) j = if 306 + 10 * i ≤ j ∧ j < 306 + 10 * i + t then nm.getD (j - (306 + 10 * i)) 0 else cI (S1.2 (m + 1)) j)
    (P := fun S' => MR S1 S' m [1] [] ∧ ∀ j, cI (S'.2 (m + 1)) j = if 306 + 10 * i ≤ j ∧ j < 306 + 10 * i + nm.length then nm.getD (j - (306 + 10 * i)) 0 else cI (S1.2 (m + 1)) j) nm.length (by omega) ⟨rfl, MR_refl x1 _ _, fun j => by rw [if_neg (by omega)]⟩
    (by
      rintro ⟨b, S2⟩ ⟨h1, h2, h3⟩
      dsimp only at h1 h2 h3
      subst h1
      unfold F_X10_names_16
      rw [if_pos (Int32.le_refl _)]
      exact ⟨_, rfl, h2, h3⟩)
    (by
      rintro t ⟨b, S2⟩ ht ⟨h1, h2, h3⟩
      dsimp only at h1 h2 h3
      subst h1
      unfold F_X10_names_16
      have e1 : (((306 : Int32) + ((10 : Int32) * nI i)) + nI (fr + t)) - nI fr = nI (306 + 10 * i + t) := by
        rw [li_306, li_10, pk_mul, nI_add, nI_add, pk_sub (by omega)]
        congr 1
        omega
      rw [if_neg (nI_ge (by omega) (by omega)), s10_g1 h2.1, Option.bind_some, s10_g9 h2.1, Option.bind_some]
      dsimp only
      rw [s10_r9 h2.1 (by omega), Option.bind_some, e1, s10_w1 h2.1 (by omega), Option.bind_some, nI_1]
      refine ⟨_, rfl, rfl, MR_I h2 (by simp) (by decide) (by decide) _ _, fun j => ?_⟩
      dsimp only
      have et : cI (S2.2 (m + 6)) (fr + t) = nm.getD t 0 := by
        rw [h2.2.2.2.1 6 (by decide) (by decide), o1 _ (by omega), hx t (nm[t]) (List.getElem?_eq_getElem ht)]
        rw [List.getD_eq_getElem?_getD, List.getElem?_eq_getElem ht]; rfl
      rw [s10_v1 h2.1, et]
      by_cases c : j = 306 + 10 * i + t
      · subst c
        rw [pu_at, if_pos (by omega), Nat.add_sub_cancel_left]
      · rw [pu_ne _ _ _ c, h3]
        by_cases d : 306 + 10 * i ≤ j ∧ j < 306 + 10 * i + t
        · rw [if_pos d, if_pos (by omega)]
        · rw [if_neg d, if_neg (by omega)])
  rw [e, Option.bind_some]
  refine ⟨S', rfl, MR_trans (MR_ofQ x1 n1 o1 (by decide) (by decide)) h2, ?_⟩
  funext j
  rw [h3, v1]
  unfold nmf
  by_cases d : 306 + 10 * i ≤ j ∧ j < 306 + 10 * i + nm.length
  · rw [if_pos d, if_pos d]
  · rw [if_neg d, if_neg d]
    by_cases c : j = 245 + i
    · rw [if_pos c, c, pu_at]
    · rw [if_neg c, pu_ne _ _ _ c]
theorem nmf_in {g : Nat → Int32} {i j : Nat} {nm : List Int32} {x : Int32} (h : nm[j]? = some x) : nmf g i nm (306 + (10 * i + j)) = x := by
  have hj := (List.getElem?_eq_some_iff.mp h).1
  unfold nmf
  rw [if_pos (by omega), show 306 + (10 * i + j) - (306 + 10 * i) = j by omega, List.getD_eq_getElem?_getD, h]
  rfl
theorem nmf_len {g : Nat → Int32} {i : Nat} {nm : List Int32} (hi : i < 61) : nmf g i nm (245 + i) = nI nm.length := by
  unfold nmf
  rw [if_neg (by omega), if_pos rfl]
theorem nmf_out {g : Nat → Int32} {i j : Nat} {nm : List Int32} (h1 : j ≠ 245 + i) (h2 : j < 306 + 10 * i ∨ 306 + 10 * i + nm.length ≤ j) : nmf g i nm j = g j := by
  unfold nmf
  rw [if_neg (by omega), if_neg h1]
theorem RT_setN {g : Nat → Int32} (h : RT g T) (hT : tOk T) {i : Nat} {nm : List Int32} (hp : tPres T i = true) (hk : nm.length ≤ 10) : RT (nmf g i nm) (tSetN T i nm) := by
  have hi := tOk_lt hT hp
  obtain ⟨h1, h2, h3⟩ := h
  refine ⟨by rw [nmf_out (by omega) (by omega)]; exact h1, fun x hx => by rw [nmf_out (by omega) (by omega)]; exact h2 x hx, fun x hx => ?_⟩
  have hx' : tPres T x = true := hx
  have hx61 := tOk_lt hT hx'
  have hn := (hT.2.2.2.2.1 x hx').1
  have hc := (hT.2.2.2.1 x hx').1
  obtain ⟨a1, a2, a3, a4, a5, a6, a7⟩ := h3 x hx'
  rw [nmf_out (j := 62 + x) (by omega) (by omega), nmf_out (j := 123 + x) (by omega) (by omega), nmf_out (j := 184 + x) (by omega) (by omega), nmf_out (j := 916 + x) (by omega) (by omega)]
  refine ⟨a1, a2, a3, ?_, ?_, a6, fun k c hkc => ?_⟩
  · show nmf g i nm (245 + x) = nI (pu (tName T) i nm x).length
    by_cases c : x = i
    · subst c; rw [pu_at, nmf_len hx61]
    · rw [pu_ne _ _ _ c, nmf_out (by omega) (by omega)]; exact a4
  · show ∀ k y, (pu (tName T) i nm x)[k]? = some y → _
    by_cases c : x = i
    · subst c; rw [pu_at]; exact fun k y hy => nmf_in hy
    · rw [pu_ne _ _ _ c]
      intro k y hy
      have := (List.getElem?_eq_some_iff.mp hy).1
      rw [nmf_out (by omega) (by omega)]; exact a5 k y hy
  · have hkc' : (tKids T x)[k]? = some c := hkc
    have := (List.getElem?_eq_some_iff.mp hkc').1
    rw [nmf_out (by omega) (by omega)]; exact a7 k c hkc'
theorem RT_make {g : Nat → Int32} (h : RT g T) (hT : tOk T) {nm : List Int32} (hM : tMade T < 60) (hk : nm.length ≤ 10) : RT (nmf (mkf g (tMade T + 1)) (tMade T + 1) nm) (tMk T nm) := by
  obtain ⟨h1, h2, h3⟩ := h
  have e0 : mkf g (tMade T + 1) 0 = nI (tMade T + 1) := by
    unfold mkf
    rw [pu_ne _ _ _ (by omega), pu_ne _ _ _ (by omega), pu_ne _ _ _ (by omega), pu_ne _ _ _ (by omega), pu_ne _ _ _ (by omega), pu_at]
  refine ⟨by rw [nmf_out (by omega) (by omega)]; exact e0, fun x hx => ?_, fun x hx => ?_⟩
  · rw [nmf_out (by omega) (by omega)]
    show _ = if pu (tPres T) (tMade T + 1) true x = true then 1 else 0
    by_cases c : x = tMade T + 1
    · subst c
      rw [pu_at, if_pos rfl]
      unfold mkf
      rw [pu_ne _ _ _ (by omega), pu_ne _ _ _ (by omega), pu_ne _ _ _ (by omega), pu_ne _ _ _ (by omega), pu_at]
    · rw [pu_ne _ _ _ c, mkf_at (by omega) (by omega) (by omega) (by omega) (by omega) (by omega)]
      exact h2 x hx
  · by_cases c : x = tMade T + 1
    · subst c
      have k1 : tKids (tMk T nm) (tMade T + 1) = [] := pu_at _ _ _
      have k2 : tName (tMk T nm) (tMade T + 1) = nm := pu_at _ _ _
      have k3 : tDone (tMk T nm) (tMade T + 1) = false := pu_at _ _ _
      have k4 : tFold (tMk T nm) (tMade T + 1) = false := pu_at _ _ _
      have k5 : tVal (tMk T nm) (tMade T + 1) = 0 := pu_at _ _ _
      have k6 : tDay (tMk T nm) (tMade T + 1) = -1 := pu_at _ _ _
      rw [k1, k2, k3, k4, k5, k6, nmf_out (j := 62 + (tMade T + 1)) (by omega) (by omega), nmf_out (j := 123 + (tMade T + 1)) (by omega) (by omega), nmf_out (j := 184 + (tMade T + 1)) (by omega) (by omega), nmf_out (j := 916 + (tMade T + 1)) (by omega) (by omega), nmf_len (by omega)]
      refine ⟨?_, ?_, ?_, rfl, fun k y hy => nmf_in hy, ?_, fun k c hc => by simp at hc⟩
      · unfold mkf
        rw [pu_ne _ _ _ (by omega), pu_ne _ _ _ (by omega), pu_ne _ _ _ (by omega), pu_at]
      · unfold mkf
        rw [pu_ne _ _ _ (by omega), pu_ne _ _ _ (by omega), pu_at]
      · unfold mkf
        rw [pu_ne _ _ _ (by omega), pu_at]; rfl
      · unfold mkf
        rw [pu_at]; rfl
    · have hx' : tPres T x = true := by
        have : pu (tPres T) (tMade T + 1) true x = true := hx
        rw [pu_ne _ _ _ c] at this
        exact this
      have hx61 := tOk_lt hT hx'
      have hn := (hT.2.2.2.2.1 x hx').1
      have hc := (hT.2.2.2.1 x hx').1
      have hxm := hT.2.2.1 x hx'
      obtain ⟨a1, a2, a3, a4, a5, a6, a7⟩ := h3 x hx'
      have k1 : tKids (tMk T nm) x = tKids T x := pu_ne _ _ _ c
      have k2 : tName (tMk T nm) x = tName T x := pu_ne _ _ _ c
      have k3 : tDone (tMk T nm) x = tDone T x := pu_ne _ _ _ c
      have k4 : tFold (tMk T nm) x = tFold T x := pu_ne _ _ _ c
      have k5 : tVal (tMk T nm) x = tVal T x := pu_ne _ _ _ c
      have k6 : tDay (tMk T nm) x = tDay T x := pu_ne _ _ _ c
      have lo : ∀ j, (j = 62 + x ∨ j = 123 + x ∨ j = 184 + x ∨ j = 245 + x ∨ j = 916 + x) → nmf (mkf g (tMade T + 1)) (tMade T + 1) nm j = g j := fun j hj => by
        rw [nmf_out (by omega) (by omega), mkf_at (by omega) (by omega) (by omega) (by omega) (by omega) (by omega)]
      rw [k1, k2, k3, k4, k5, k6, lo _ (by omega), lo _ (by omega), lo _ (by omega), lo _ (by omega), lo _ (by omega)]
      refine ⟨a1, a2, a3, a4, fun k y hy => ?_, a6, fun k y hy => ?_⟩
      · have := (List.getElem?_eq_some_iff.mp hy).1
        rw [nmf_out (by omega) (by omega), mkf_at (by omega) (by omega) (by omega) (by omega) (by omega) (by omega)]
        exact a5 k y hy
      · have := (List.getElem?_eq_some_iff.mp hy).1
        rw [nmf_out (by omega) (by omega), mkf_at (by omega) (by omega) (by omega) (by omega) (by omega) (by omega)]
        exact a7 k y hy
/-! one number -/
theorem RT_setV {g : Nat → Int32} (h : RT g T) (hT : tOk T) {i : Nat} (hp : tPres T i = true) (v : Int32) : RT (pu g (62 + i) v) (tSetV T i v) := by
  have hi := tOk_lt hT hp
  obtain ⟨h1, h2, h3⟩ := h
  refine ⟨by rw [pu_ne _ _ _ (by omega)]; exact h1, fun x hx => by rw [pu_ne _ _ _ (by omega)]; exact h2 x hx, fun x hx => ?_⟩
  have hx' : tPres T x = true := hx
  have hx61 := tOk_lt hT hx'
  obtain ⟨a1, a2, a3, a4, a5, a6, a7⟩ := h3 x hx'
  rw [pu_ne _ _ _ (show 123 + x ≠ 62 + i by omega), pu_ne _ _ _ (show 184 + x ≠ 62 + i by omega), pu_ne _ _ _ (show 245 + x ≠ 62 + i by omega), pu_ne _ _ _ (show 916 + x ≠ 62 + i by omega)]
  refine ⟨?_, a2, a3, a4, fun k y hy => by rw [pu_ne _ _ _ (by omega)]; exact a5 k y hy, a6, fun k y hy => by rw [pu_ne _ _ _ (by omega)]; exact a7 k y hy⟩
  show _ = pu (tVal T) i v x
  by_cases c : x = i
  · subst c; rw [pu_at, pu_at]
  · rw [pu_ne _ _ _ (by omega), pu_ne _ _ _ c]; exact a1
theorem RT_setD {g : Nat → Int32} (h : RT g T) (hT : tOk T) {i : Nat} (hp : tPres T i = true) (v : Int32) : RT (pu g (123 + i) v) (tSetD T i v) := by
  have hi := tOk_lt hT hp
  obtain ⟨h1, h2, h3⟩ := h
  refine ⟨by rw [pu_ne _ _ _ (by omega)]; exact h1, fun x hx => by rw [pu_ne _ _ _ (by omega)]; exact h2 x hx, fun x hx => ?_⟩
  have hx' : tPres T x = true := hx
  have hx61 := tOk_lt hT hx'
  obtain ⟨a1, a2, a3, a4, a5, a6, a7⟩ := h3 x hx'
  rw [pu_ne _ _ _ (show 62 + x ≠ 123 + i by omega), pu_ne _ _ _ (show 184 + x ≠ 123 + i by omega), pu_ne _ _ _ (show 245 + x ≠ 123 + i by omega), pu_ne _ _ _ (show 916 + x ≠ 123 + i by omega)]
  refine ⟨a1, ?_, a3, a4, fun k y hy => by rw [pu_ne _ _ _ (by omega)]; exact a5 k y hy, a6, fun k y hy => by rw [pu_ne _ _ _ (by omega)]; exact a7 k y hy⟩
  show _ = pu (tDay T) i v x
  by_cases c : x = i
  · subst c; rw [pu_at, pu_at]
  · rw [pu_ne _ _ _ (by omega), pu_ne _ _ _ c]; exact a2
theorem RT_setG {g : Nat → Int32} (h : RT g T) (hT : tOk T) {i : Nat} (hp : tPres T i = true) {v : Int32} {T' : Tr} (e1 : tMade T' = tMade T) (e2 : tPres T' = tPres T) (e3 : tVal T' = tVal T) (e4 : tDay T' = tDay T) (e5 : tName T' = tName T) (e6 : tKids T' = tKids T) (ed : v = flg (tDone T' i) (tFold T' i)) (eo : ∀ x, x ≠ i → tDone T' x = tDone T x ∧ tFold T' x = tFold T x) : RT (pu g (184 + i) v) T' := by
  have hi := tOk_lt hT hp
  obtain ⟨h1, h2, h3⟩ := h
  rw [RT, e1, e2, e3, e4, e5, e6]
  refine ⟨by rw [pu_ne _ _ _ (by omega)]; exact h1, fun x hx => by rw [pu_ne _ _ _ (by omega)]; exact h2 x hx, fun x hx' => ?_⟩
  have hx61 := tOk_lt hT hx'
  obtain ⟨a1, a2, a3, a4, a5, a6, a7⟩ := h3 x hx'
  rw [pu_ne _ _ _ (show 62 + x ≠ 184 + i by omega), pu_ne _ _ _ (show 123 + x ≠ 184 + i by omega), pu_ne _ _ _ (show 245 + x ≠ 184 + i by omega), pu_ne _ _ _ (show 916 + x ≠ 184 + i by omega)]
  refine ⟨a1, a2, ?_, a4, fun k y hy => by rw [pu_ne _ _ _ (by omega)]; exact a5 k y hy, a6, fun k y hy => by rw [pu_ne _ _ _ (by omega)]; exact a7 k y hy⟩
  by_cases c : x = i
  · subst c; rw [pu_at, ed]
  · rw [pu_ne _ _ _ (by omega), (eo x c).1, (eo x c).2]; exact a3
/-! items are counted -/
theorem r_items (h : RR S m T) (hT : tOk T) : F_X10_items S m = some (nI (cntB (tPres T))) := by
  unfold F_X10_items
  obtain ⟨r, e, hr⟩ := iter_fu (F := F_X10_items_4 m S) (s := ((0 : Int32), (0 : Int32))) (fun i s => s = (nI ((List.range i).filter (tPres T)).length, nI i)) (P := fun r => r = nI (cntB (tPres T))) 61 (by decide) rfl
    (by
      rintro s rfl
      unfold F_X10_items_4
      rw [if_pos le61]
      exact ⟨_, rfl, rfl⟩)
    (by
      rintro i s hi rfl
      unfold F_X10_items_4
      rw [if_neg (ge61 hi), s10_g1 h.1, Option.bind_some]
      dsimp only
      rw [nI_1l, s10_r1 h.1 (by omega), Option.bind_some, h.2.2.1 _ hi, nI_1]
      refine ⟨_, rfl, ?_⟩
      show (_, _) = _
      rw [List.range_succ, List.filter_append, List.length_append]
      cases hp : tPres T i
      · rw [if_neg (by decide), li_0, nI_add]; simp [hp]
      · rw [if_pos rfl, nI_1]; simp [hp])
  rw [s10_oF h.1, e, Option.bind_some, hr]
end RSETS
