/-! down and up the order, purely -/
theorem plp_keep (T : Tr) (c : Nat) : ∀ (l : List Nat) (pl : Nat → Nat), (∀ p, p ∈ l → c ∉ tKids T p) → (l.foldl (plp T) pl) c = pl c := by
  intro l
  induction l with
  | nil => intro pl _; rfl
  | cons q t ih =>
    intro pl h
    rw [List.foldl_cons, ih _ (fun p hp => h p (List.mem_cons_of_mem _ hp))]
    unfold plp
    rw [if_neg (h q List.mem_cons_self), Nat.add_zero]
/-- places after k items -/
def plk (T : Tr) (k : Nat) : Nat → Nat := ((ordT T).take k).foldl (plp T) (fun i => if i = 0 then 1 else 0)
theorem plk_all (T : Tr) : plk T (ordT T).length = plcT T := by unfold plk plcT; rw [List.take_length]
theorem ord_split {T : Tr} {k p : Nat} (hp : (ordT T)[k]? = some p) : ordT T = (ordT T).take k ++ p :: (ordT T).drop (k + 1) := by
  obtain ⟨hk, e⟩ := List.getElem?_eq_some_iff.mp hp
  rw [← e, ← List.drop_eq_getElem_cons hk, List.take_append_drop]
theorem plk_succ {T : Tr} {k p : Nat} (hp : (ordT T)[k]? = some p) : plk T (k + 1) = plp T (plk T k) p := by
  obtain ⟨hk, e⟩ := List.getElem?_eq_some_iff.mp hp
  unfold plk
  rw [List.take_succ_eq_append_getElem hk, List.foldl_append, e]
  rfl
theorem plk_at {T : Tr} (h : tOk T) {k p : Nat} (hp : (ordT T)[k]? = some p) : plk T k p = plcT T p := by
  have e : plcT T = ((ordT T).drop k).foldl (plp T) (plk T k) := by
    unfold plcT plk
    rw [← List.foldl_append, List.take_append_drop]
  rw [e, plp_keep]
  intro q hq hc
  have es := ord_split hp
  have hn := ord_nodup h
  obtain ⟨hk, e2⟩ := List.getElem?_eq_some_iff.mp hp
  rw [List.drop_eq_getElem_cons hk, e2] at hq
  rcases List.mem_cons.mp hq with z | z
  · subst z
    exact absurd rfl (tOk_kid h ((ord_mem h q).mp (List.mem_of_getElem? hp)) hc).2.2.1
  · obtain ⟨a, b, e3⟩ := List.append_of_mem z
    have := ord_kid h (l1 := (ordT T).take k ++ p :: a) (l2 := b) (p := q) (by rw [List.append_assoc, List.cons_append, ← e3]; exact es) hc
    rw [es] at hn
    have hn2 := (List.nodup_cons.mp (List.nodup_append.mp hn).2.1).1
    exact hn2 (by rw [e3]; simp [this])
/-- depths, with a condition on the item above -/
def dps (T : Tr) (cd : Nat → Bool) (s : Nat → Int32) (p : Nat) : Nat → Int32 := fun c => if c ∈ tKids T p ∧ cd p = true ∧ s c < s p + 1 then s p + 1 else s c
def dpk (T : Tr) (cd : Nat → Bool) (k : Nat) : Nat → Int32 := ((ordT T).take k).foldl (dps T cd) (fun _ => 0)
theorem dpk_succ {T : Tr} {cd : Nat → Bool} {k p : Nat} (hp : (ordT T)[k]? = some p) : dpk T cd (k + 1) = dps T cd (dpk T cd k) p := by
  obtain ⟨hk, e⟩ := List.getElem?_eq_some_iff.mp hp
  unfold dpk
  rw [List.take_succ_eq_append_getElem hk, List.foldl_append, e]
  rfl
/-- one item is under way: K of its children are done -/
def PJ (pl : Nat → Nat) (p : Nat) (K : List Nat) (w : Nat → Int32) : Prop := ∀ c, c < 61 → w c = nI (pl c + if c ∈ K then pl p else 0)
def DJ (cd : Nat → Bool) (s : Nat → Int32) (p : Nat) (K : List Nat) (w : Nat → Int32) : Prop := ∀ c, c < 61 → w c = if c ∈ K ∧ cd p = true ∧ s c < s p + 1 then s p + 1 else s c
theorem take_new {l : List Nat} (hn : l.Nodup) {i c : Nat} (hc : l[i]? = some c) : c ∉ l.take i ∧ l.take (i + 1) = l.take i ++ [c] := by
  obtain ⟨hi, hci⟩ := List.getElem?_eq_some_iff.mp hc
  refine ⟨fun z => ?_, by rw [List.take_succ_eq_append_getElem hi, hci]⟩
  have hn : (l.take i ++ l.drop i).Nodup := by rw [List.take_append_drop]; exact hn
  have := (List.nodup_append.mp hn).2.2 c z c (by rw [List.drop_eq_getElem_cons hi, hci]; exact List.mem_cons_self)
  exact this rfl
theorem PJ_step {l : List Nat} (hn : l.Nodup) {pl : Nat → Nat} {p i c : Nat} {w : Nat → Int32} (hc : l[i]? = some c) (hpl : p ∉ l) (hp : p < 61) (hc61 : c < 61) (h : PJ pl p (l.take i) w) : PJ pl p (l.take (i + 1)) (pu w c (w c + w p)) := by
  obtain ⟨n1, n2⟩ := take_new hn hc
  intro x hx
  rw [n2]
  by_cases e : x = c
  · subst e
    rw [pu_at, h x hx, h p hp, if_neg n1, if_neg (fun z => hpl (List.mem_of_mem_take z)), if_pos (by simp), Nat.add_zero, Nat.add_zero, nI_add]
  · rw [pu_ne _ _ _ e, h x hx]
    congr 2
    by_cases m : x ∈ l.take i
    · rw [if_pos m, if_pos (by simp [m])]
    · rw [if_neg m, if_neg (by simp [m, e])]
theorem DJ_step {l : List Nat} (hn : l.Nodup) {cd : Nat → Bool} {s : Nat → Int32} {p i c : Nat} {w : Nat → Int32} (hc : l[i]? = some c) (hpl : p ∉ l) (hp : p < 61) (hc61 : c < 61) (h : DJ cd s p (l.take i) w) : w c = s c ∧ w p = s p ∧ DJ cd s p (l.take (i + 1)) (pu w c (if cd p = true ∧ s c < s p + 1 then s p + 1 else s c)) := by
  obtain ⟨n1, n2⟩ := take_new hn hc
  have e1 : w c = s c := by rw [h c hc61, if_neg (fun z => n1 z.1)]
  have e2 : w p = s p := by rw [h p hp, if_neg (fun z => hpl (List.mem_of_mem_take z.1))]
  refine ⟨e1, e2, fun x hx => ?_⟩
  rw [n2]
  by_cases e : x = c
  · subst e
    rw [pu_at]
    by_cases q : cd p = true ∧ s x < s p + 1
    · rw [if_pos q, if_pos ⟨by simp, q⟩]
    · rw [if_neg q, if_neg (fun z => q z.2)]
  · rw [pu_ne _ _ _ e, h x hx]
    by_cases m : x ∈ l.take i ∧ cd p = true ∧ s x < s p + 1
    · rw [if_pos m, if_pos ⟨by simp [m.1], m.2⟩]
    · rw [if_neg m, if_neg]
      intro z
      refine m ⟨?_, z.2⟩
      have := z.1
      simp only [List.mem_append, List.mem_singleton] at this
      exact this.resolve_right e
/-- sets below -/
def belg (T : Tr) (p : Nat) (f : Nat → Int64) : Int64 := (tKids T p).foldl (fun x c => x ||| (f c ||| bitL c)) 0
def belT (T : Tr) : Nat → Int64 := upf (belg T) (ordT T) (fun _ => 0)
def famg (T : Tr) (p : Nat) (f : Nat → Int64) : Int64 := (tKids T p).foldl (fun x c => x ||| f c) (bitL p)
def famT (T : Tr) : Nat → Int64 := upf (famg T) (ordT T) (fun _ => 0)
theorem fold_congr {β : Type} (l : List Nat) (g g' : β → Nat → β) (x : β) (h : ∀ y c, c ∈ l → g y c = g' y c) : l.foldl g x = l.foldl g' x := by
  induction l generalizing x with
  | nil => rfl
  | cons a t ih => rw [List.foldl_cons, List.foldl_cons, h x a List.mem_cons_self]; exact ih _ (fun y c hc => h y c (List.mem_cons_of_mem _ hc))
theorem bel_eq {T : Tr} (h : tOk T) {p : Nat} (hp : tPres T p = true) : belT T p = belg T p (belT T) :=
  upf_eq h (belg T) (fun p w w' hw => fold_congr _ _ _ _ (fun y c hc => by rw [hw c hc])) _ p hp
theorem fam_eq {T : Tr} (h : tOk T) {p : Nat} (hp : tPres T p = true) : famT T p = famg T p (famT T) :=
  upf_eq h (famg T) (fun p w w' hw => fold_congr _ _ _ _ (fun y c hc => by rw [hw c hc])) _ p hp
theorem lb_fold (g : Nat → Int64) (i : Nat) : ∀ (l : List Nat) (x : Int64), lb (l.foldl (fun x c => x ||| g c) x) i = (lb x i || l.any fun c => lb (g c) i) := by
  intro l
  induction l with
  | nil => intro x; simp
  | cons a t ih => intro x; rw [List.foldl_cons, ih, lb_or, List.any_cons, Bool.or_assoc]
theorem lb_fam {T : Tr} (h : tOk T) {p i : Nat} (hp : tPres T p = true) (hi : i < 64) : lb (famT T p) i = true ↔ i = p ∨ ∃ c, c ∈ tKids T p ∧ lb (famT T c) i = true := by
  rw [fam_eq h hp]
  unfold famg
  rw [lb_fold, lb_bitL (by have := tOk_lt h hp; omega) hi]
  simp
/-- families by what is below -/
theorem lb_bel {T : Tr} (h : tOk T) {p i : Nat} (hp : tPres T p = true) (hi : i < 64) : lb (belT T p) i = true ↔ ∃ c, c ∈ tKids T p ∧ (lb (belT T c) i = true ∨ i = c) := by
  rw [bel_eq h hp]
  unfold belg
  rw [lb_fold, lb_0]
  simp only [Bool.false_or, List.any_eq_true, lb_or, Bool.or_eq_true]
  constructor
  · rintro ⟨c, hc, z⟩
    refine ⟨c, hc, z.imp id (fun w => ?_)⟩
    rw [lb_bitL (by have := (tOk_kid h hp hc).2.2.2; omega) hi] at w
    exact of_decide_eq_true w
  · rintro ⟨c, hc, z⟩
    refine ⟨c, hc, z.imp id (fun w => ?_)⟩
    rw [lb_bitL (by have := (tOk_kid h hp hc).2.2.2; omega) hi]
    exact decide_eq_true w
theorem fam_bel {T : Tr} (h : tOk T) : ∀ p, tPres T p = true → ∀ i, i < 64 → (lb (famT T p) i = true ↔ i = p ∨ lb (belT T p) i = true) := by
  refine dag_ind h _ (fun p hp ih i hi => ?_)
  rw [lb_fam h hp hi, lb_bel h hp hi]
  constructor
  · rintro (z | ⟨c, hc, z⟩)
    · exact Or.inl z
    · exact Or.inr ⟨c, hc, ((ih c hc i hi).mp z).symm⟩
  · rintro (z | ⟨c, hc, z⟩)
    · exact Or.inl z
    · exact Or.inr ⟨c, hc, (ih c hc i hi).mpr z.symm⟩
theorem upf_drop {β : Type} {T : Tr} (g : Nat → (Nat → β) → β) (w : Nat → β) {u p : Nat} (hp : (ordT T)[u]? = some p) : upf g ((ordT T).drop u) w = pu (upf g ((ordT T).drop (u + 1)) w) p (g p (upf g ((ordT T).drop (u + 1)) w)) := by
  obtain ⟨hk, e⟩ := List.getElem?_eq_some_iff.mp hp
  rw [List.drop_eq_getElem_cons hk, e, upf_cons]
theorem ord_nin {T : Tr} (h : tOk T) {u p : Nat} (hp : (ordT T)[u]? = some p) : p ∉ (ordT T).drop (u + 1) := by
  have hn := ord_nodup h
  rw [ord_split hp] at hn
  exact (List.nodup_cons.mp (List.nodup_append.mp hn).2.1).1
/-- sums of ways under way -/
def UJ (w0 : Nat → Nat) (p : Nat) (K : List Nat) (w : Nat → Int32) : Prop := ∀ c, c < 61 → w c = nI (if c = p then (K.map fun c => 1 + w0 c).sum else w0 c)
theorem UJ_step {l : List Nat} {w0 : Nat → Nat} {p i c : Nat} {w : Nat → Int32} (hc : l[i]? = some c) (hpl : p ∉ l) (hp : p < 61) (hc61 : c < 61) (h : UJ w0 p (l.take i) w) : UJ w0 p (l.take (i + 1)) (pu w p (w p + ((1 : Int32) + w c))) := by
  obtain ⟨hi, hci⟩ := List.getElem?_eq_some_iff.mp hc
  have hcp : c ≠ p := fun z => hpl (z ▸ List.mem_of_getElem? hc)
  intro x hx
  by_cases e : x = p
  · subst e
    rw [pu_at, h x hx, h c hc61, if_pos rfl, if_neg hcp, if_pos rfl, li_1, nI_add, nI_add, List.take_succ_eq_append_getElem hi, hci, List.map_append, List.sum_append]
    simp
  · rw [pu_ne _ _ _ e, h x hx, if_neg e, if_neg e]
