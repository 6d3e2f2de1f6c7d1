/-! lines: the walk down from an item, and the class's -/
section RUN
variable {σ β : Type} {F : σ → Option (σ ⊕ β)} {s s1 s2 : σ} {k l : Nat}
def Run (F : σ → Option (σ ⊕ β)) (s s' : σ) (k : Nat) : Prop := ∀ n, iter F (n + k) s = iter F n s'
theorem Run_0 : Run F s s 0 := fun n => rfl
theorem Run_1 (e : F s = some (.inl s1)) : Run F s s1 1 := fun n => by
  show (F s).bind _ = _
  rw [e]; rfl
theorem Run_t (h : Run F s s1 k) (h2 : Run F s1 s2 l) : Run F s s2 (k + l) := fun n => by
  rw [show n + (k + l) = (n + l) + k by omega, h, h2]
theorem Run_end {b : β} (h : Run F s s1 k) (hk : k < 1000000) (e : F s1 = some (.inr b)) : iter F fu s = some b := by
  have := h (1000000 - k)
  rw [show 1000000 - k + k = fu by unfold fu; omega] at this
  rw [this, show 1000000 - k = (999999 - k) + 1 by omega]
  show (F s1).bind _ = _
  rw [e]; rfl
end RUN
abbrev Rw : Type := Nat × Int32 × Nat × Int32
def wst (W : Nat → Int32 → Nat → List Rw → List Rw) (T : Tr) (sh op : Nat → Bool) (p : Nat) (d : Int32) (r : Nat) (acc : List Rw) (k : Nat) : List Rw :=
  if sh ((tKids T p).getD k 0) = true then (if op ((tKids T p).getD k 0) = true then W ((tKids T p).getD k 0) (d + 1) acc.length (acc ++ [((tKids T p).getD k 0, nI r, k, d)]) else acc ++ [((tKids T p).getD k 0, nI r, k, d)]) else acc
def wlk (T : Tr) (sh op : Nat → Bool) : Nat → Nat → Int32 → Nat → List Rw → List Rw
  | 0 => fun _ _ _ acc => acc
  | n + 1 => fun p d r acc => (List.range (tKids T p).length).foldl (wst (wlk T sh op n) T sh op p d r) acc
def wlj (T : Tr) (sh op : Nat → Bool) (n p : Nat) (d : Int32) (r : Nat) (acc : List Rw) (k : Nat) : List Rw := (List.range k).foldl (wst (wlk T sh op n) T sh op p d r) acc
theorem wlj_0 (T : Tr) (sh op : Nat → Bool) (n p : Nat) (d : Int32) (r : Nat) (acc : List Rw) : wlj T sh op n p d r acc 0 = acc := rfl
theorem wlj_s (T : Tr) (sh op : Nat → Bool) (n p : Nat) (d : Int32) (r : Nat) (acc : List Rw) (k : Nat) : wlj T sh op n p d r acc (k + 1) = wst (wlk T sh op n) T sh op p d r (wlj T sh op n p d r acc k) k := by
  unfold wlj
  rw [List.range_succ, List.foldl_append]; rfl
theorem wlj_e (T : Tr) (sh op : Nat → Bool) (n p : Nat) (d : Int32) (r : Nat) (acc : List Rw) : wlk T sh op (n + 1) p d r acc = wlj T sh op n p d r acc (tKids T p).length := rfl
def ksum (T : Tr) (p k : Nat) : Nat := (((tKids T p).take k).map fun c => 1 + wayT T c).sum
theorem ksum_s {T : Tr} {p k c : Nat} (h : (tKids T p)[k]? = some c) : ksum T p (k + 1) = ksum T p k + (1 + wayT T c) := by
  unfold ksum
  rw [List.take_add_one, h, List.map_append, List.sum_append]
  simp
theorem ksum_e {T : Tr} (hT : tOk T) {p : Nat} (hp : tPres T p = true) : ksum T p (tKids T p).length = wayT T p := by
  unfold ksum
  rw [List.take_length, way_eq hT hp]
theorem ksum_le {T : Tr} (hT : tOk T) {p k : Nat} (hp : tPres T p = true) : ksum T p k ≤ wayT T p := by
  rw [← ksum_e hT hp]
  unfold ksum
  rw [List.take_length]
  exact sub_sum (List.take_sublist _ _) _
theorem getD_of {l : List Nat} {k c : Nat} (h : l[k]? = some c) : l.getD k 0 = c := by
  rw [List.getD_eq_getElem?_getD, h]; rfl
/-- the walk adds rows, at most as many as there are places below -/
theorem wlk_len {T : Tr} (hT : tOk T) (sh op : Nat → Bool) : ∀ (n p : Nat) (d : Int32) (r : Nat) (acc : List Rw), tPres T p = true → acc <+: wlk T sh op n p d r acc ∧ (wlk T sh op n p d r acc).length ≤ acc.length + wayT T p := by
  intro n
  induction n with
  | zero => intro p d r acc hp; exact ⟨List.prefix_refl _, Nat.le_add_right _ _⟩
  | succ n ih =>
    intro p d r acc hp
    have key : ∀ k, k ≤ (tKids T p).length → acc <+: wlj T sh op n p d r acc k ∧ (wlj T sh op n p d r acc k).length ≤ acc.length + ksum T p k := by
      intro k
      induction k with
      | zero => intro _; exact ⟨List.prefix_refl _, Nat.le_add_right _ _⟩
      | succ k ihk =>
        intro hk
        obtain ⟨h1, h2⟩ := ihk (by omega)
        have e1 : (tKids T p)[k]? = some (tKids T p)[k] := List.getElem?_eq_getElem (by omega)
        have hc := tOk_kid hT hp (List.getElem_mem (show k < (tKids T p).length by omega))
        generalize (tKids T p)[k] = c at *
        rw [wlj_s, ksum_s e1]
        unfold wst
        rw [getD_of e1]
        generalize wlj T sh op n p d r acc k = acc2 at *
        have hp2 : acc2 <+: acc2 ++ [(c, nI r, k, d)] := List.prefix_append _ _
        by_cases q : sh c = true
        · rw [if_pos q]
          by_cases q2 : op c = true
          · rw [if_pos q2]
            obtain ⟨a1, a2⟩ := ih c (d + 1) acc2.length (acc2 ++ [(c, nI r, k, d)]) hc.1
            refine ⟨h1.trans (hp2.trans a1), ?_⟩
            rw [List.length_append, List.length_singleton] at a2
            omega
          · rw [if_neg q2]
            refine ⟨h1.trans hp2, ?_⟩
            rw [List.length_append, List.length_singleton]
            omega
        · rw [if_neg q]
          exact ⟨h1, by omega⟩
    rw [wlj_e, ← ksum_e hT hp]
    exact key _ (Nat.le_refl _)
theorem wlj_len {T : Tr} (hT : tOk T) (sh op : Nat → Bool) {n p : Nat} (hp : tPres T p = true) (d : Int32) (r : Nat) (acc : List Rw) : ∀ k, k ≤ (tKids T p).length → acc <+: wlj T sh op n p d r acc k ∧ (wlj T sh op n p d r acc k).length ≤ acc.length + ksum T p k := by
  intro k
  induction k with
  | zero => intro _; exact ⟨List.prefix_refl _, Nat.le_add_right _ _⟩
  | succ k ihk =>
    intro hk
    obtain ⟨h1, h2⟩ := ihk (by omega)
    have e1 : (tKids T p)[k]? = some (tKids T p)[k] := List.getElem?_eq_getElem (by omega)
    have hc := tOk_kid hT hp (List.getElem_mem (show k < (tKids T p).length by omega))
    generalize (tKids T p)[k] = c at *
    rw [wlj_s, ksum_s e1]
    unfold wst
    rw [getD_of e1]
    generalize wlj T sh op n p d r acc k = acc2 at *
    have hp2 : acc2 <+: acc2 ++ [(c, nI r, k, d)] := List.prefix_append _ _
    by_cases q : sh c = true
    · rw [if_pos q]
      by_cases q2 : op c = true
      · rw [if_pos q2]
        obtain ⟨a1, a2⟩ := wlk_len hT sh op n c (d + 1) acc2.length (acc2 ++ [(c, nI r, k, d)]) hc.1
        refine ⟨h1.trans (hp2.trans a1), ?_⟩
        rw [List.length_append, List.length_singleton] at a2
        omega
      · rw [if_neg q2]
        refine ⟨h1.trans hp2, ?_⟩
        rw [List.length_append, List.length_singleton]
        omega
    · rw [if_neg q]
      exact ⟨h1, by omega⟩
/-- how much order is left behind an item -/
def remT (T : Tr) (p : Nat) : Nat := (ordT T).length - (ordT T).idxOf p
theorem rem_kid {T : Tr} (hT : tOk T) {p c : Nat} (hp : tPres T p = true) (hc : c ∈ tKids T p) : remT T c < remT T p := by
  have hpo := (ord_mem hT p).mpr hp
  obtain ⟨l1, l2, e⟩ := List.append_of_mem hpo
  have hc2 := ord_kid hT e hc
  have hn := ord_nodup hT
  rw [e] at hn
  have hd := List.nodup_append.mp hn
  have p1 : p ∉ l1 := fun z => hd.2.2 p z p List.mem_cons_self rfl
  have c1 : c ∉ l1 := fun z => hd.2.2 c z c (List.mem_cons_of_mem _ hc2) rfl
  have cp : p ≠ c := fun z => by
    rw [z] at hd
    exact (List.nodup_cons.mp hd.2.1).1 hc2
  have hcl : (ordT T).idxOf c < (ordT T).length := List.idxOf_lt_length_of_mem ((ord_mem hT c).mpr (tOk_kid hT hp hc).1)
  unfold remT
  rw [e] at hcl ⊢
  rw [List.idxOf_append, if_neg c1, List.idxOf_cons] at hcl ⊢
  rw [List.idxOf_append, if_neg p1, List.idxOf_cons_self]
  have : (p == c) = false := by simpa using cp
  rw [this] at hcl ⊢
  simp only [cond_false] at hcl ⊢
  omega
theorem rem_pos {T : Tr} (hT : tOk T) {p : Nat} (hp : tPres T p = true) : 0 < remT T p := by
  have := List.idxOf_lt_length_of_mem ((ord_mem hT p).mpr hp)
  unfold remT
  omega
theorem rem_le {T : Tr} (hT : tOk T) (p : Nat) : remT T p ≤ 61 := by
  have := ord_len hT
  unfold remT
  omega
/-! the class -/
section CWK
variable {S : pS} {b t : Nat} {T : Tr}
def LR (S : pS) (b : Nat) (acc : List Rw) : Prop := Sh S b sp5 ∧ fI (S.2 b) 5 = nI acc.length ∧ ∀ (j : Nat) row, acc[j]? = some row → cI (S.2 (b + 1)) j = nI row.1 ∧ cI (S.2 (b + 2)) j = row.2.1 ∧ cI (S.2 (b + 3)) j = nI row.2.2.1 ∧ cI (S.2 (b + 4)) j = row.2.2.2
theorem c_putRow {acc : List Rw} (h : Sh S b sp5) (hn : fI (S.2 b) 5 = nI acc.length) (hr : ∀ (j : Nat) row, acc[j]? = some row → cI (S.2 (b + 1)) j = nI row.1 ∧ cI (S.2 (b + 2)) j = row.2.1 ∧ cI (S.2 (b + 3)) j = nI row.2.2.1 ∧ cI (S.2 (b + 4)) j = row.2.2.2) (hl : acc.length < 301) (c k : Nat) (a d : Int32) : ∃ S', F_X5_putRow S b (nI c) a (nI k) d = some S' ∧ LR S' b (acc ++ [(c, a, k, d)]) ∧ cI (S'.2 (b + 5)) = pu (cI (S.2 (b + 5))) acc.length 0 ∧ Bk S S' b 6 := by
  unfold F_X5_putRow
  rw [s5_oF h, s5_g0 h, Option.bind_some, s5_g5 h, Option.bind_some, hn, s5_w0 h hl, Option.bind_some]
  have k1 := sh_wI h (b + 1) acc.length (nI c)
  have v1 := s5_v0 h acc.length (nI c)
  have n1 : (wI S (b + 1) acc.length (nI c)).1 = S.1 := rfl
  have o1 : ∀ q, q ≠ b + 1 → (wI S (b + 1) acc.length (nI c)).2 q = S.2 q := fun q hq => wI_ne _ _ _ hq
  generalize wI S (b + 1) acc.length (nI c) = S1 at *
  rw [s5_g1 k1, Option.bind_some, s5_g5 k1, Option.bind_some, o1 b (by omega), hn, s5_w1 k1 hl, Option.bind_some]
  have k2 := sh_wI k1 (b + 2) acc.length a
  have v2 := s5_v1 k1 acc.length a
  have n2 : (wI S1 (b + 2) acc.length a).1 = S.1 := n1
  have o2 : ∀ q, q ≠ b + 2 → (wI S1 (b + 2) acc.length a).2 q = S1.2 q := fun q hq => wI_ne _ _ _ hq
  generalize wI S1 (b + 2) acc.length a = S2 at *
  rw [s5_g2 k2, Option.bind_some, s5_g5 k2, Option.bind_some, o2 b (by omega), o1 b (by omega), hn, s5_w2 k2 hl, Option.bind_some]
  have k3 := sh_wI k2 (b + 3) acc.length (nI k)
  have v3 := s5_v2 k2 acc.length (nI k)
  have n3 : (wI S2 (b + 3) acc.length (nI k)).1 = S.1 := n2
  have o3 : ∀ q, q ≠ b + 3 → (wI S2 (b + 3) acc.length (nI k)).2 q = S2.2 q := fun q hq => wI_ne _ _ _ hq
  generalize wI S2 (b + 3) acc.length (nI k) = S3 at *
  rw [s5_g3 k3, Option.bind_some, s5_g5 k3, Option.bind_some, o3 b (by omega), o2 b (by omega), o1 b (by omega), hn, s5_w3 k3 hl, Option.bind_some]
  have k4 := sh_wI k3 (b + 4) acc.length d
  have v4 := s5_v3 k3 acc.length d
  have n4 : (wI S3 (b + 4) acc.length d).1 = S.1 := n3
  have o4 : ∀ q, q ≠ b + 4 → (wI S3 (b + 4) acc.length d).2 q = S3.2 q := fun q hq => wI_ne _ _ _ hq
  generalize wI S3 (b + 4) acc.length d = S4 at *
  rw [s5_g4 k4, Option.bind_some, s5_g5 k4, Option.bind_some, o4 b (by omega), o3 b (by omega), o2 b (by omega), o1 b (by omega), hn, s5_w4 k4 hl, Option.bind_some]
  have k5 := sh_wI k4 (b + 5) acc.length 0
  have v5 := s5_v4 k4 acc.length 0
  have n5 : (wI S4 (b + 5) acc.length 0).1 = S.1 := n4
  have o5 : ∀ q, q ≠ b + 5 → (wI S4 (b + 5) acc.length 0).2 q = S4.2 q := fun q hq => wI_ne _ _ _ hq
  generalize wI S4 (b + 5) acc.length 0 = S5 at *
  rw [s5_g5 k5, Option.bind_some, o5 b (by omega), o4 b (by omega), o3 b (by omega), o2 b (by omega), o1 b (by omega), hn, nI_1, s5_p5 k5, Option.bind_some]
  have k6 := s5_k5 k5 k5 (nI (acc.length + 1))
  have v6 := s5_v5 k5 (nI (acc.length + 1))
  have n6 : (wF S5 b 5 (.int (nI (acc.length + 1)))).1 = S.1 := n5
  have o6 : ∀ q, q ≠ b → (wF S5 b 5 (.int (nI (acc.length + 1)))).2 q = S5.2 q := fun q hq => wF_ne _ _ _ hq
  generalize wF S5 b 5 (.int (nI (acc.length + 1))) = S6 at *
  have w1 : cI (S6.2 (b + 1)) = pu (cI (S.2 (b + 1))) acc.length (nI c) := by rw [o6 _ (by omega), o5 _ (by omega), o4 _ (by omega), o3 _ (by omega), o2 _ (by omega), v1]
  have w2 : cI (S6.2 (b + 2)) = pu (cI (S.2 (b + 2))) acc.length a := by rw [o6 _ (by omega), o5 _ (by omega), o4 _ (by omega), o3 _ (by omega), v2, o1 _ (by omega)]
  have w3 : cI (S6.2 (b + 3)) = pu (cI (S.2 (b + 3))) acc.length (nI k) := by rw [o6 _ (by omega), o5 _ (by omega), o4 _ (by omega), v3, o2 _ (by omega), o1 _ (by omega)]
  have w4 : cI (S6.2 (b + 4)) = pu (cI (S.2 (b + 4))) acc.length d := by rw [o6 _ (by omega), o5 _ (by omega), v4, o3 _ (by omega), o2 _ (by omega), o1 _ (by omega)]
  have w5 : cI (S6.2 (b + 5)) = pu (cI (S.2 (b + 5))) acc.length 0 := by rw [o6 _ (by omega), v5, o4 _ (by omega), o3 _ (by omega), o2 _ (by omega), o1 _ (by omega)]
  refine ⟨S6, rfl, ⟨k6, by rw [v6, List.length_append]; rfl, fun j row hj => ?_⟩, w5, n6, fun q hq => by rw [o6 q (by omega), o5 q (by omega), o4 q (by omega), o3 q (by omega), o2 q (by omega), o1 q (by omega)]⟩
  rw [w1, w2, w3, w4]
  by_cases e : j = acc.length
  · subst e
    rw [List.getElem?_append_right (Nat.le_refl _), Nat.sub_self] at hj
    have : (c, a, k, d) = row := by simpa using hj
    subst this
    rw [pu_at, pu_at, pu_at, pu_at]
    exact ⟨rfl, rfl, rfl, rfl⟩
  · rw [pu_ne _ _ _ e, pu_ne _ _ _ e, pu_ne _ _ _ e, pu_ne _ _ _ e]
    refine hr j row ?_
    have hj2 := (List.getElem?_eq_some_iff.mp hj).1
    rw [List.length_append, List.length_singleton] at hj2
    rw [List.getElem?_append_left (by omega)] at hj
    exact hj
end CWK
