/-! the outline, purely: made, present, values, days, done, folded, names, children -/
abbrev Tr : Type := Nat × (Nat → Bool) × (Nat → Int32) × (Nat → Int32) × (Nat → Bool) × (Nat → Bool) × (Nat → List Int32) × (Nat → List Nat)
def tMade (T : Tr) : Nat := T.1
def tPres (T : Tr) : Nat → Bool := T.2.1
def tVal (T : Tr) : Nat → Int32 := T.2.2.1
def tDay (T : Tr) : Nat → Int32 := T.2.2.2.1
def tDone (T : Tr) : Nat → Bool := T.2.2.2.2.1
def tFold (T : Tr) : Nat → Bool := T.2.2.2.2.2.1
def tName (T : Tr) : Nat → List Int32 := T.2.2.2.2.2.2.1
def tKids (T : Tr) : Nat → List Nat := T.2.2.2.2.2.2.2
/-- what holds of every outline, also of a draft -/
def tOk (T : Tr) : Prop := tPres T 0 = true ∧ tMade T ≤ 60 ∧ (∀ i, tPres T i = true → i ≤ tMade T) ∧
  (∀ i, tPres T i = true → (tKids T i).length ≤ 12 ∧ (tKids T i).Nodup ∧ ∀ c, c ∈ tKids T i → tPres T c = true ∧ c ≠ 0) ∧
  (∀ i, tPres T i = true → (tName T i).length ≤ 10 ∧ ∀ x, x ∈ tName T i → 97 ≤ x ∧ x ≤ 122) ∧
  ∃ rk : Nat → Nat, ∀ i, tPres T i = true → ∀ c, c ∈ tKids T i → rk i < rk c
/-- all is below the root -/
def tAll (T : Tr) : Prop := ∀ i, tPres T i = true → i ≠ 0 → ∃ p, tPres T p = true ∧ i ∈ tKids T p
theorem tOk_lt {T : Tr} (h : tOk T) {i : Nat} (hi : tPres T i = true) : i < 61 := by
  have := h.2.2.1 i hi
  have := h.2.1
  omega
theorem tOk_kid {T : Tr} (h : tOk T) {i c : Nat} (hi : tPres T i = true) (hc : c ∈ tKids T i) : tPres T c = true ∧ c ≠ 0 ∧ c ≠ i ∧ c < 61 := by
  obtain ⟨h1, h2, h3, h4, h5, rk, h6⟩ := h
  have h7 := (h4 i hi).2.2 c hc
  refine ⟨h7.1, h7.2, fun e => ?_, ?_⟩
  · have := h6 i hi c hc
    rw [e] at this
    omega
  · have := h3 c h7.1
    omega
/-! parents and the order -/
def par (T : Tr) (c : Nat) : List Nat := (List.range 61).filter fun p => tPres T p && (tKids T p).contains c
theorem par_mem {T : Tr} {c p : Nat} : p ∈ par T c ↔ p < 61 ∧ tPres T p = true ∧ c ∈ tKids T p := by
  simp [par, List.mem_filter, List.mem_range]
theorem par_nodup (T : Tr) (c : Nat) : (par T c).Nodup := List.Pairwise.filter _ List.nodup_range
/-- the parents that aren't in D -/
def wt (T : Tr) (D : List Nat) (c : Nat) : Nat := ((par T c).filter fun p => !D.contains p).length
theorem wt_zero {T : Tr} {D : List Nat} {c : Nat} : wt T D c = 0 ↔ ∀ p, p ∈ par T c → p ∈ D := by
  unfold wt
  rw [List.length_eq_zero_iff, List.filter_eq_nil_iff]
  constructor
  · intro h p hp
    have := h p hp
    simpa using this
  · intro h p hp
    simpa using h p hp
theorem wt_nil (T : Tr) (c : Nat) : wt T [] c = (par T c).length := by
  unfold wt
  congr 1
  apply List.filter_eq_self.mpr
  intro p _
  rfl
theorem flt_drop {l D : List Nat} {p : Nat} (hn : l.Nodup) (hp : p ∈ l) (hd : p ∉ D) : (l.filter fun q => !D.contains q).length = (l.filter fun q => !(D ++ [p]).contains q).length + 1 := by
  induction l with
  | nil => cases hp
  | cons a t ih =>
    rw [List.nodup_cons] at hn
    rw [List.filter_cons, List.filter_cons]
    by_cases e : a = p
    · subst e
      have h1 : (!D.contains a) = true := by simpa using hd
      have h2 : (!(D ++ [a]).contains a) = false := by simp
      rw [if_pos h1, h2, if_neg (by decide)]
      rw [List.length_cons]
      congr 2
      apply List.filter_congr
      intro q hq
      have : q ≠ a := fun z => hn.1 (z ▸ hq)
      simp [this]
    · have hp' : p ∈ t := by
        rcases List.mem_cons.mp hp with z | z
        · exact absurd z.symm e
        · exact z
      have e2 : (!(D ++ [p]).contains a) = (!D.contains a) := by simp [e]
      rw [e2]
      by_cases c : (!D.contains a) = true
      · rw [if_pos c, if_pos c, List.length_cons, List.length_cons, ih hn.2 hp']
      · rw [if_neg c, if_neg c, ih hn.2 hp']
theorem wt_step {T : Tr} {D : List Nat} {p c : Nat} (hp : p ∈ par T c) (hd : p ∉ D) : wt T D c = wt T (D ++ [p]) c + 1 := flt_drop (par_nodup T c) hp hd
theorem wt_same {T : Tr} {D : List Nat} {p c : Nat} (hp : p ∉ par T c) : wt T (D ++ [p]) c = wt T D c := by
  unfold wt
  congr 1
  apply List.filter_congr
  intro q hq
  have : q ≠ p := fun z => hp (z ▸ hq)
  simp [this]
def kloop (T : Tr) : Nat → Nat → List Nat → List Nat
  | 0, _, o => o
  | n + 1, k, o => match o[k]? with
    | none => o
    | some p => kloop T n (k + 1) (o ++ (tKids T p).filter fun c => decide (wt T (o.take (k + 1)) c = 0))
def ko0 (T : Tr) : List Nat := (List.range 61).filter fun i => tPres T i && decide ((par T i).length = 0)
/-- every item stands behind all its parents -/
def ordT (T : Tr) : List Nat := kloop T 61 0 (ko0 T)
def kInv (T : Tr) (k : Nat) (o : List Nat) : Prop := k ≤ o.length ∧ o.Nodup ∧ (∀ c, c ∈ o ↔ (tPres T c = true ∧ wt T (o.take k) c = 0)) ∧
  ∀ l1 c l2, o = l1 ++ c :: l2 → ∀ p, p ∈ par T c → p ∈ l1
theorem kInv_0 {T : Tr} (h : tOk T) : kInv T 0 (ko0 T) := by
  have hm : ∀ c, c ∈ ko0 T ↔ (tPres T c = true ∧ (par T c).length = 0) := by
    intro c
    simp only [ko0, List.mem_filter, List.mem_range, Bool.and_eq_true, decide_eq_true_eq]
    exact ⟨fun z => z.2, fun z => ⟨tOk_lt h z.1, z⟩⟩
  refine ⟨Nat.zero_le _, List.Pairwise.filter _ List.nodup_range, fun c => ?_, fun l1 c l2 e p hp => ?_⟩
  · rw [List.take_zero, wt_nil]; exact hm c
  · have : c ∈ ko0 T := by rw [e]; simp
    have h0 := ((hm c).mp this).2
    rw [List.length_eq_zero_iff] at h0
    rw [h0] at hp
    cases hp
theorem kInv_step {T : Tr} (h : tOk T) {k p : Nat} {o : List Nat} (hI : kInv T k o) (hp : o[k]? = some p) : kInv T (k + 1) (o ++ (tKids T p).filter fun c => decide (wt T (o.take (k + 1)) c = 0)) := by
  obtain ⟨h1, h2, h3, h4⟩ := hI
  obtain ⟨hk, hpk⟩ := List.getElem?_eq_some_iff.mp hp
  have hpo : p ∈ o := List.mem_of_getElem? hp
  have hpp : tPres T p = true := ((h3 p).mp hpo).1
  have hp61 := tOk_lt h hpp
  have htk : o.take (k + 1) = o.take k ++ [p] := by rw [List.take_succ_eq_append_getElem hk, hpk]
  have hpD : p ∉ o.take k := by
    intro z
    have hn : (o.take k ++ o.drop k).Nodup := by rw [List.take_append_drop]; exact h2
    have := (List.nodup_append.mp hn).2.2 p z p (by rw [List.drop_eq_getElem_cons hk, hpk]; exact List.mem_cons_self)
    exact this rfl
  have hkn := (h.2.2.2.1 p hpp).2.1
  have hkp := (h.2.2.2.1 p hpp).2.2
  have hnew : ∀ c, c ∈ tKids T p → c ∉ o := by
    intro c hc z
    have := (h3 c).mp z
    exact hpD (wt_zero.mp this.2 p (par_mem.mpr ⟨hp61, hpp, hc⟩))
  have htk2 : ∀ l : List Nat, (o ++ l).take (k + 1) = o.take (k + 1) := fun l => List.take_append_of_le_length (by omega)
  refine ⟨by rw [List.length_append]; omega, ?_, fun c => ?_, ?_⟩
  · rw [List.nodup_append]
    refine ⟨h2, List.Pairwise.filter _ hkn, fun a ha b hb e => ?_⟩
    subst e
    exact hnew a (List.mem_filter.mp hb).1 ha
  · rw [htk2, List.mem_append, List.mem_filter, decide_eq_true_eq]
    by_cases hc : c ∈ tKids T p
    · constructor
      · rintro (z | z)
        · exact absurd z (hnew c hc)
        · exact ⟨(hkp c hc).1, z.2⟩
      · intro z
        exact Or.inr ⟨hc, z.2⟩
    · have e : wt T (o.take (k + 1)) c = wt T (o.take k) c := by
        rw [htk]
        exact wt_same (fun z => hc (par_mem.mp z).2.2)
      rw [e, h3 c]
      constructor
      · rintro (z | z)
        · exact z
        · exact absurd z.1 hc
      · exact Or.inl
  · intro l1 c l2 e q hq
    rcases List.append_eq_append_iff.mp e with ⟨as, e1, e2⟩ | ⟨bs, e1, e2⟩
    · have hc : c ∈ (tKids T p).filter fun c => decide (wt T (o.take (k + 1)) c = 0) := by rw [e2]; simp
      have hw := (List.mem_filter.mp hc).2
      rw [decide_eq_true_eq] at hw
      have := wt_zero.mp hw q hq
      rw [e1]
      exact List.mem_append_left _ (List.mem_of_mem_take this)
    · cases bs with
      | nil =>
        rw [List.nil_append] at e2
        have hc : c ∈ (tKids T p).filter fun c => decide (wt T (o.take (k + 1)) c = 0) := by rw [← e2]; simp
        have hw := (List.mem_filter.mp hc).2
        rw [decide_eq_true_eq] at hw
        have := List.mem_of_mem_take (wt_zero.mp hw q hq)
        rw [e1, List.append_nil] at this
        exact this
      | cons b bt =>
        rw [List.cons_append, List.cons.injEq] at e2
        obtain ⟨e3, e4⟩ := e2
        subst e3
        exact h4 l1 c bt e1 q hq
theorem kloop_inv {T : Tr} (h : tOk T) : ∀ (n k : Nat) (o : List Nat), kInv T k o → 61 ≤ n + k → ∃ k', k' = (kloop T n k o).length ∧ kInv T k' (kloop T n k o) := by
  intro n
  induction n with
  | zero =>
    intro k o hI hn
    have hl : o.length ≤ (List.range 61).length := List.Nodup.length_le_of_subset hI.2.1 (fun c hc => List.mem_range.mpr (tOk_lt h ((hI.2.2.1 c).mp hc).1))
    rw [List.length_range] at hl
    have : k = o.length := by have := hI.1; omega
    exact ⟨k, this, hI⟩
  | succ n ih =>
    intro k o hI hn
    unfold kloop
    cases e : o[k]? with
    | none =>
      have := List.getElem?_eq_none_iff.mp e
      exact ⟨k, by have := hI.1; simp only; omega, hI⟩
    | some p => exact ih (k + 1) _ (kInv_step h hI e) (by omega)
theorem ord_inv {T : Tr} (h : tOk T) : kInv T (ordT T).length (ordT T) := by
  obtain ⟨k', e, h1⟩ := kloop_inv h 61 0 _ (kInv_0 h) (by omega)
  unfold ordT
  rw [← e]
  exact h1
theorem ord_nodup {T : Tr} (h : tOk T) : (ordT T).Nodup := (ord_inv h).2.1
theorem ord_mem {T : Tr} (h : tOk T) (c : Nat) : c ∈ ordT T ↔ tPres T c = true := by
  have hI := ord_inv h
  constructor
  · intro z; exact ((hI.2.2.1 c).mp z).1
  · obtain ⟨rk, hr⟩ := h.2.2.2.2.2
    have key : ∀ n c, rk c < n → tPres T c = true → c ∈ ordT T := by
      intro n
      induction n with
      | zero => intro c hc; omega
      | succ n ih =>
        intro c hc hp
        refine (hI.2.2.1 c).mpr ⟨hp, ?_⟩
        rw [List.take_length, wt_zero]
        intro p hpp
        obtain ⟨q1, q2, q3⟩ := par_mem.mp hpp
        exact ih p (by have := hr p q2 c q3; omega) q2
    exact key (rk c + 1) c (by omega)
theorem ord_len {T : Tr} (h : tOk T) : (ordT T).length ≤ 61 := by
  have hl : (ordT T).length ≤ (List.range 61).length := List.Nodup.length_le_of_subset (ord_nodup h) (fun c hc => List.mem_range.mpr (tOk_lt h ((ord_mem h c).mp hc)))
  rw [List.length_range] at hl
  exact hl
/-- children stand behind -/
theorem ord_kid {T : Tr} (h : tOk T) {l1 l2 : List Nat} {p c : Nat} (e : ordT T = l1 ++ p :: l2) (hc : c ∈ tKids T p) : c ∈ l2 := by
  have hn := ord_nodup h
  have hp : tPres T p = true := (ord_mem h p).mp (by rw [e]; simp)
  obtain ⟨k1, k2, k3, k4⟩ := tOk_kid h hp hc
  have hco : c ∈ l1 ++ p :: l2 := by rw [← e]; exact (ord_mem h c).mpr k1
  rcases List.mem_append.mp hco with z | z
  · obtain ⟨a, b, e2⟩ := List.append_of_mem z
    have := (ord_inv h).2.2.2 a c (b ++ p :: l2) (by rw [e, e2]; simp) p (par_mem.mpr ⟨tOk_lt h hp, hp, hc⟩)
    rw [e] at hn
    have := (List.nodup_append.mp hn).2.2 p (by rw [e2]; simp [this]) p List.mem_cons_self
    exact absurd rfl this
  · rcases List.mem_cons.mp z with z | z
    · exact absurd z k3
    · exact z
/-- children first -/
theorem dag_ind {T : Tr} (h : tOk T) (P : Nat → Prop) (hs : ∀ p, tPres T p = true → (∀ c, c ∈ tKids T p → P c) → P p) : ∀ p, tPres T p = true → P p := by
  have key : ∀ l2 l1, ordT T = l1 ++ l2 → ∀ p, p ∈ l2 → P p := by
    intro l2
    induction l2 with
    | nil => intro l1 _ p hp; cases hp
    | cons q t ih =>
      intro l1 e p hp
      have iht := ih (l1 ++ [q]) (by rw [e]; simp)
      rcases List.mem_cons.mp hp with z | z
      · subst z
        exact hs p ((ord_mem h p).mp (by rw [e]; simp)) (fun c hc => iht c (ord_kid h e hc))
      · exact iht p z
  exact fun p hp => key (ordT T) [] rfl p ((ord_mem h p).mpr hp)
/-- parents first -/
theorem dag_up {T : Tr} (h : tOk T) (P : Nat → Prop) (hs : ∀ c, tPres T c = true → (∀ p, tPres T p = true → c ∈ tKids T p → P p) → P c) : ∀ c, tPres T c = true → P c := by
  obtain ⟨rk, hr⟩ := h.2.2.2.2.2
  have key : ∀ n c, rk c < n → tPres T c = true → P c := by
    intro n
    induction n with
    | zero => intro c hc; omega
    | succ n ih => exact fun c hc hp => hs c hp (fun p h1 h2 => ih p (by have := hr p h1 c h2; omega) h1)
  exact fun c => key (rk c + 1) c (by omega)
/-! figures that come up from the children -/
def upf {β : Type} (g : Nat → (Nat → β) → β) (l : List Nat) (w : Nat → β) : Nat → β := l.foldr (fun p w => pu w p (g p w)) w
theorem upf_cons {β : Type} (g : Nat → (Nat → β) → β) (q : Nat) (l : List Nat) (w : Nat → β) : upf g (q :: l) w = pu (upf g l w) q (g q (upf g l w)) := rfl
theorem upf_out {β : Type} (g : Nat → (Nat → β) → β) (w : Nat → β) {p : Nat} : ∀ {l : List Nat}, p ∉ l → upf g l w p = w p := by
  intro l
  induction l with
  | nil => intro _; rfl
  | cons q t ih =>
    intro hp
    rw [upf_cons, pu_ne _ _ _ (fun e => hp (by rw [e]; exact List.mem_cons_self))]
    exact ih (fun z => hp (List.mem_cons_of_mem _ z))
theorem upf_eq {β : Type} {T : Tr} (h : tOk T) (g : Nat → (Nat → β) → β) (hg : ∀ p w w', (∀ c, c ∈ tKids T p → w c = w' c) → g p w = g p w') (w : Nat → β) : ∀ p, tPres T p = true → upf g (ordT T) w p = g p (upf g (ordT T) w) := by
  have key : ∀ l2 l1, ordT T = l1 ++ l2 → ∀ p, p ∈ l2 → upf g l2 w p = g p (upf g l2 w) := by
    intro l2
    induction l2 with
    | nil => intro l1 _ p hp; cases hp
    | cons q t ih =>
      intro l1 e p hp
      have e' : ordT T = (l1 ++ [q]) ++ t := by rw [e]; simp
      have iht := ih _ e'
      have hn := ord_nodup h
      rw [e] at hn
      have hqt := (List.nodup_cons.mp (List.nodup_append.mp hn).2.1).1
      have keep : ∀ c, c ∈ t → upf g (q :: t) w c = upf g t w c := fun c hc => by
        rw [upf_cons, pu_ne _ _ _ (show c ≠ q from fun z => hqt (by rw [← z]; exact hc))]
      rcases List.mem_cons.mp hp with z | z
      · subst z
        rw [upf_cons, pu_at, ← upf_cons]
        exact hg p _ _ (fun c hc => (keep c (ord_kid h e hc)).symm)
      · rw [keep p z, iht p z]
        refine hg p _ _ (fun c hc => (keep c ?_).symm)
        obtain ⟨a, b, e2⟩ := List.append_of_mem z
        have := ord_kid h (l1 := l1 ++ [q] ++ a) (l2 := b) (p := p) (by rw [e', e2]; simp) hc
        rw [e2]; simp [this]
  exact fun p hp => key (ordT T) [] rfl p ((ord_mem h p).mpr hp)
def wayg (T : Tr) (p : Nat) (w : Nat → Nat) : Nat := ((tKids T p).map fun c => 1 + w c).sum
/-- the ways down from an item -/
def wayT (T : Tr) : Nat → Nat := upf (wayg T) (ordT T) (fun _ => 0)
theorem way_eq {T : Tr} (h : tOk T) {p : Nat} (hp : tPres T p = true) : wayT T p = ((tKids T p).map fun c => 1 + wayT T c).sum := by
  refine upf_eq h (wayg T) (fun p w w' hw => ?_) _ p hp
  unfold wayg
  congr 1
  exact List.map_congr_left (fun c hc => by rw [hw c hc])
/-! places -/
def plp (T : Tr) (pl : Nat → Nat) (p : Nat) : Nat → Nat := fun c => pl c + if c ∈ tKids T p then pl p else 0
def plcT (T : Tr) : Nat → Nat := (ordT T).foldl (plp T) (fun i => if i = 0 then 1 else 0)
theorem sum_one {l : List Nat} (hn : l.Nodup) {c : Nat} (hc : c ∈ l) (f : Nat → Nat) : (l.map fun i => if i = c then f i else 0).sum = f c := by
  induction l with
  | nil => cases hc
  | cons a t ih =>
    rw [List.nodup_cons] at hn
    rw [List.map_cons, List.sum_cons]
    by_cases e : a = c
    · subst e
      rw [if_pos rfl]
      have : (t.map fun i => if i = a then f i else 0) = t.map fun _ => 0 := List.map_congr_left (fun i hi => if_neg (show ¬ i = a from fun z => hn.1 (by rw [← z]; exact hi)))
      rw [this]
      have z : ∀ l : List Nat, (l.map fun _ => 0).sum = 0 := by
        intro l
        induction l with
        | nil => rfl
        | cons x y ih => rw [List.map_cons, List.sum_cons, ih]
      rw [z]; rfl
    · rw [if_neg e, Nat.zero_add]
      rcases List.mem_cons.mp hc with z | z
      · exact absurd z.symm e
      · exact ih hn.2 z
theorem sum_add (l : List Nat) (f g : Nat → Nat) : (l.map fun i => f i + g i).sum = (l.map f).sum + (l.map g).sum := by
  induction l with
  | nil => rfl
  | cons a t ih => rw [List.map_cons, List.sum_cons, ih, List.map_cons, List.sum_cons, List.map_cons, List.sum_cons]; omega
theorem sum_sub {l : List Nat} (hn : l.Nodup) (f : Nat → Nat) : ∀ {K : List Nat}, K.Nodup → (∀ c, c ∈ K → c ∈ l) → (l.map fun i => if i ∈ K then f i else 0).sum = (K.map f).sum := by
  intro K
  induction K with
  | nil =>
    intro _ _
    have z : ∀ l : List Nat, (l.map fun i => if i ∈ ([] : List Nat) then f i else 0).sum = 0 := by
      intro l
      induction l with
      | nil => rfl
      | cons x y ih => rw [List.map_cons, List.sum_cons, ih]; simp
    exact z l
  | cons a t ih =>
    intro hK hs
    rw [List.nodup_cons] at hK
    have e : (l.map fun i => if i ∈ a :: t then f i else 0) = l.map fun i => (if i = a then f i else 0) + (if i ∈ t then f i else 0) := by
      apply List.map_congr_left
      intro i _
      by_cases c : i = a
      · subst c; simp [hK.1]
      · simp [c]
    rw [e, sum_add, sum_one hn (hs a List.mem_cons_self), ih hK.2 (fun c hc => hs c (List.mem_cons_of_mem _ hc)), List.map_cons, List.sum_cons]
theorem sum_mulr (K : List Nat) (f : Nat → Nat) (x : Nat) : (K.map fun i => x * f i).sum = x * (K.map f).sum := by
  induction K with
  | nil => simp
  | cons a t ih => rw [List.map_cons, List.sum_cons, ih, List.map_cons, List.sum_cons, Nat.mul_add]
theorem sum_len (K : List Nat) (v : Nat → Nat) : (K.map fun c => 1 + v c).sum = K.length + (K.map v).sum := by
  induction K with
  | nil => rfl
  | cons a t ih => rw [List.map_cons, List.sum_cons, ih, List.map_cons, List.sum_cons, List.length_cons]; omega
theorem sum_if {l : List Nat} (hn : l.Nodup) (pl f : Nat → Nat) (x : Nat) {K : List Nat} (hK : K.Nodup) (hs : ∀ c, c ∈ K → c ∈ l) : (l.map fun i => (pl i + if i ∈ K then x else 0) * f i).sum = (l.map fun i => pl i * f i).sum + x * (K.map f).sum := by
  have e : (l.map fun i => (pl i + if i ∈ K then x else 0) * f i) = l.map fun i => pl i * f i + (if i ∈ K then x * f i else 0) := by
    apply List.map_congr_left
    intro i _
    by_cases c : i ∈ K
    · simp [c, Nat.add_mul]
    · simp [c]
  rw [e, sum_add, sum_sub hn _ hK hs, sum_mulr]
/-- places against any figure v with v p = x p + the sum of 1 + v c -/
theorem pot {T : Tr} (h : tOk T) (v x : Nat → Nat) (hv : ∀ p, tPres T p = true → v p = x p + ((tKids T p).map fun c => 1 + v c).sum) :
    1 + v 0 = ((ordT T).map (plcT T)).sum + ((ordT T).map fun p => plcT T p * x p).sum := by
  have hn := ord_nodup h
  have key : ∀ (l2 l1 : List Nat) (pl : Nat → Nat), ordT T = l1 ++ l2 →
      ((ordT T).map pl).sum + (l2.map fun p => pl p * v p).sum = ((ordT T).map (l2.foldl (plp T) pl)).sum + (l2.map fun p => (l2.foldl (plp T) pl) p * x p).sum ∧ ∀ c, c ∉ l2 → (∀ p, p ∈ l2 → c ∉ tKids T p) → (l2.foldl (plp T) pl) c = pl c := by
    intro l2
    induction l2 with
    | nil => intro l1 pl _; exact ⟨by simp, fun _ _ _ => rfl⟩
    | cons q t ih =>
      intro l1 pl e
      have e' : ordT T = (l1 ++ [q]) ++ t := by rw [e]; simp
      obtain ⟨i1, i2⟩ := ih _ (plp T pl q) e'
      have hq : tPres T q = true := (ord_mem h q).mp (by rw [e]; simp)
      have hn' := hn
      rw [e] at hn'
      have hqt := List.nodup_cons.mp (List.nodup_append.mp hn').2.1
      have hK := (h.2.2.2.1 q hq).2.1
      have hkid : ∀ c, c ∈ tKids T q → c ∈ t := fun c hc => ord_kid h e hc
      have hqq : (t.foldl (plp T) (plp T pl q)) q = pl q := by
        rw [i2 q hqt.1 (fun p hp hc => ?_)]
        · unfold plp
          rw [if_neg (fun z => hqt.1 (hkid q z)), Nat.add_zero]
        · obtain ⟨a, b, e2⟩ := List.append_of_mem hp
          have := ord_kid h (l1 := l1 ++ [q] ++ a) (l2 := b) (by rw [e', e2]; simp) hc
          exact hqt.1 (by rw [e2]; simp [this])
      refine ⟨?_, fun c hc hp => ?_⟩
      · rw [List.foldl_cons, List.map_cons, List.sum_cons, List.map_cons, List.sum_cons, hqq]
        have s1 : ((ordT T).map (plp T pl q)).sum = ((ordT T).map pl).sum + pl q * (tKids T q).length := by
          have := sum_if hn pl (fun _ => 1) (pl q) hK (fun c hc => (ord_mem h c).mpr (tOk_kid h hq hc).1)
          simp only [Nat.mul_one] at this
          have l9 : ((tKids T q).map fun _ => 1).sum = (tKids T q).length := by
            have := sum_len (tKids T q) (fun _ => 0)
            have z : ∀ l : List Nat, (l.map fun _ => 0).sum = 0 := by
              intro l
              induction l with
              | nil => rfl
              | cons x y ih => rw [List.map_cons, List.sum_cons, ih]
            rw [z] at this
            simpa using this
          rw [l9] at this
          exact this
        have s2 : (t.map fun p => plp T pl q p * v p).sum = (t.map fun p => pl p * v p).sum + pl q * ((tKids T q).map v).sum := sum_if hqt.2 pl v (pl q) hK hkid
        rw [s1, s2] at i1
        have hvq := hv q hq
        rw [sum_len] at hvq
        rw [hvq, Nat.mul_add, Nat.mul_add]
        omega
      · rw [List.foldl_cons, i2 c (fun z => hc (List.mem_cons_of_mem _ z)) (fun p hp' => hp p (List.mem_cons_of_mem _ hp'))]
        unfold plp
        rw [if_neg (hp q List.mem_cons_self), Nat.add_zero]
  obtain ⟨k1, -⟩ := key (ordT T) [] (fun i => if i = 0 then 1 else 0) rfl
  have h0 : 0 ∈ ordT T := (ord_mem h 0).mpr h.1
  have a1 : ((ordT T).map fun i => if i = 0 then 1 else 0).sum = 1 := sum_one hn h0 (fun _ => 1)
  have a2 : ((ordT T).map fun p => (if p = 0 then 1 else 0) * v p).sum = v 0 := by
    have := sum_one hn h0 v
    rw [← this]
    congr 1
    apply List.map_congr_left
    intro i _
    by_cases c : i = 0 <;> simp [c]
  rw [a1, a2] at k1
  exact k1
