/-! entries are put, purely -/
section LOD
variable {L : List Ent} {T : Tr} {I : List Nat} {item k : Nat}
def enL (L : List Ent) (k : Nat) : Ent := L.getD k (e0E 0)
def fndL (L : List Ent) (lv : Nat) : Nat → Option Nat
  | 0 => none
  | j + 1 => if (enL L j).1 + 1 = lv then some j else fndL L lv j
def parE (L : List Ent) (I : List Nat) (k item : Nat) : Nat := match fndL L (enL L k).1 k with
  | none => item
  | some j => I.getD j 0
def tEnt (T : Tr) (e : Ent) : Tr := tSetX (tSetV (tSetD (tMk T e.2.2.1) (tMade T + 1) e.2.2.2.1) (tMade T + 1) e.2.2.2.2.1) (tMade T + 1) e.2.2.2.2.2
def stepE (L : List Ent) (item : Nat) (T : Tr) (I : List Nat) (k : Nat) : (Tr × List Nat) ⊕ (Nat × Int32) := match (enL L k).2.1 with
  | none => if reaN T (parE L I k item) = 0 then .inl (tPut (tEnt T (enL L k)) (parE L I k item) (tKids T (parE L I k item)).length (tMade T + 1), I ++ [tMade T + 1]) else .inr (k, reaN T (parE L I k item))
  | some v => if reaC T (I.getD v 0) (parE L I k item) = 0 then .inl (tPut T (parE L I k item) (tKids T (parE L I k item)).length (I.getD v 0), I ++ [I.getD v 0]) else .inr (k, reaC T (I.getD v 0) (parE L I k item))
def lodE (L : List Ent) (item : Nat) (T0 : Tr) : Nat → (Tr × List Nat) ⊕ (Nat × Int32)
  | 0 => .inl (T0, [])
  | k + 1 => match lodE L item T0 k with
    | .inr q => .inr q
    | .inl s => stepE L item s.1 s.2 k
theorem lodE_s (L : List Ent) (item : Nat) (T0 : Tr) (k : Nat) : lodE L item T0 (k + 1) = match lodE L item T0 k with
    | .inr q => .inr q
    | .inl s => stepE L item s.1 s.2 k := rfl
theorem lodE_mono {T0 : Tr} {k : Nat} {q : Nat × Int32} (h : lodE L item T0 k = .inr q) : ∀ j, lodE L item T0 (k + j) = .inr q := by
  intro j
  induction j with
  | zero => exact h
  | succ j ih =>
    rw [show k + (j + 1) = (k + j) + 1 from rfl, lodE_s, ih]
theorem fndL_lt {lv : Nat} : ∀ k j, fndL L lv k = some j → j < k ∧ (enL L j).1 + 1 = lv := by
  intro k
  induction k with
  | zero => intro j h; cases h
  | succ k ih =>
    intro j h
    have h' : (if (enL L k).1 + 1 = lv then some k else fndL L lv k) = some j := h
    by_cases c : (enL L k).1 + 1 = lv
    · rw [if_pos c] at h'
      cases h'
      exact ⟨Nat.lt_succ_self _, c⟩
    · rw [if_neg c] at h'
      have := ih j h'
      exact ⟨by omega, this.2⟩
def LodI (T : Tr) (I : List Nat) (item k : Nat) : Prop := good T ∧ I.length = k ∧ (∀ x, x ∈ I → tPres T x = true ∧ x ≠ 0) ∧ tPres T item = true ∧ tName T 0 = []
theorem getD_mem {I : List Nat} {j : Nat} (h : j < I.length) : I.getD j 0 ∈ I := by
  rw [List.getD_eq_getElem?_getD, List.getElem?_eq_getElem h]
  exact List.getElem_mem h
theorem par_pres (h : LodI T I item k) : tPres T (parE L I k item) = true := by
  unfold parE
  cases e : fndL L (enL L k).1 k with
  | none => exact h.2.2.2.1
  | some j =>
    have := (fndL_lt k j e).1
    exact (h.2.2.1 _ (getD_mem (by rw [h.2.1]; exact this))).1
theorem enL_get {e : Ent} (h : L[k]? = some e) : enL L k = e := by
  unfold enL
  rw [List.getD_eq_getElem?_getD, h]; rfl
theorem enL_ok (hL : ELo L) (hk : k < L.length) : L[k]? = some (enL L k) ∧ (enL L k).1 ≤ k ∧ eOk k (mostL (L.take k)) (enL L k) := by
  have e := List.getElem?_eq_getElem hk
  have := hL k _ e
  rw [enL_get e]
  exact ⟨e, this⟩
/-- new: the item is made and put -/
theorem ent_put (h : LodI T I item k) {e : Ent} {q : Nat} (hq : tPres T q = true) (hn : e.2.2.1.length ≤ 10 ∧ ∀ x, x ∈ e.2.2.1 → 97 ≤ x ∧ x ≤ 122) (r0 : reaN T q = 0) : LodI (tPut (tEnt T e) q (tKids T q).length (tMade T + 1)) (I ++ [tMade T + 1]) item (k + 1) := by
  obtain ⟨h1, h2, h3, h4, h5⟩ := h
  have hg := mk_put h1 (k := (tKids T q).length) hq (Nat.le_refl _) hn r0
  have hg2 : good (tPut (tEnt T e) q (tKids T q).length (tMade T + 1)) := good_cg hg rfl rfl rfl (fun i hi => hg.1.2.2.2.2.1 i hi)
  have pr : ∀ x, tPres T x = true → tPres (tMk T e.2.2.1) x = true := fun x hx => mk_pres h1.1 _ hx
  have hM : tPres (tMk T e.2.2.1) (tMade T + 1) = true := pu_at _ _ _
  refine ⟨hg2, by rw [List.length_append, h2]; rfl, fun x hx => ?_, pr item h4, ?_⟩
  · rcases List.mem_append.mp hx with z | z
    · exact ⟨pr x (h3 x z).1, (h3 x z).2⟩
    · rw [List.mem_singleton] at z
      subst z
      exact ⟨hM, by omega⟩
  · show pu (tName T) (tMade T + 1) e.2.2.1 0 = []
    rw [pu_ne _ _ _ (by omega)]
    exact h5
/-- clone: it is put -/
theorem cln_put (h : LodI T I item k) {c q : Nat} (hq : tPres T q = true) (hc : c ∈ I) (r0 : reaC T c q = 0) : LodI (tPut T q (tKids T q).length c) (I ++ [c]) item (k + 1) := by
  obtain ⟨h1, h2, h3, h4, h5⟩ := h
  obtain ⟨hcp, hc0⟩ := h3 c hc
  have hT := h1.1
  obtain ⟨a1, a2, a3, a4⟩ := reaC_0 hT hq r0
  have hok := put_ok hT hq hcp hc0 (Nat.le_refl _) a1 a2 a3
  have hg : good (tPut T q (tKids T q).length c) := by
    refine ⟨hok, put_all h1.2.1 (Nat.le_refl _), ?_⟩
    have hw := put_way hT hok hq hcp (Nat.le_refl _) a3
    have w1 := way_le hT h1.2.1 c hcp
    have w2 := plc_le hT hq
    have w3 := h1.2.2
    rw [hw]
    refine reaP_0 w3 (by omega) (show 1 + wayT T c ≤ 301 by omega) ?_
    rw [← nI_1l]
    exact a4
  refine ⟨hg, by rw [List.length_append, h2]; rfl, fun x hx => ?_, h4, h5⟩
  rcases List.mem_append.mp hx with z | z
  · exact h3 x z
  · rw [List.mem_singleton] at z
    rw [z]; exact ⟨hcp, hc0⟩
theorem step_inv (hL : ELo L) (hk : k < L.length) (h : LodI T I item k) {s : Tr × List Nat} (e : stepE L item T I k = .inl s) : LodI s.1 s.2 item (k + 1) := by
  obtain ⟨b1, b2, b3⟩ := enL_ok hL hk
  have hq := par_pres (L := L) h
  unfold stepE at e
  cases es : (enL L k).2.1 with
  | none =>
    rw [es] at e
    dsimp only at e
    by_cases r0 : reaN T (parE L I k item) = 0
    · rw [if_pos r0] at e
      cases e
      exact ent_put h hq ⟨b3.2.2.2.1, b3.2.2.2.2.1⟩ r0
    · rw [if_neg r0] at e; cases e
  | some v =>
    rw [es] at e
    dsimp only at e
    have hv := b3.2.1 v es
    by_cases r0 : reaC T (I.getD v 0) (parE L I k item) = 0
    · rw [if_pos r0] at e
      cases e
      exact cln_put h hq (getD_mem (by rw [h.2.1]; exact hv)) r0
    · rw [if_neg r0] at e; cases e
theorem lod_inv {T0 : Tr} (hL : ELo L) (h0 : LodI T0 [] item 0) : ∀ k, k ≤ L.length → ∀ s, lodE L item T0 k = .inl s → LodI s.1 s.2 item k := by
  intro k
  induction k with
  | zero => intro _ s e; cases e; exact h0
  | succ k ih =>
    intro hk s e
    rw [lodE_s] at e
    cases ek : lodE L item T0 k with
    | inr q => rw [ek] at e; cases e
    | inl s1 =>
      rw [ek] at e
      exact step_inv hL (by omega) (ih (by omega) s1 ek) e
/-- below an entry of some level there is one of each lower level before it -/
theorem lvl_ex (hL : ELo L) : ∀ k, k < L.length → ∀ v, v < (enL L k).1 → ∃ j, j < k ∧ (enL L j).1 = v := by
  intro k
  induction k with
  | zero =>
    intro hk v hv
    have := (enL_ok hL hk).2.1
    omega
  | succ k ih =>
    intro hk v hv
    have h1 := (enL_ok hL hk).2.2.1
    have e1 : L.take (k + 1) = L.take k ++ [enL L k] := by rw [List.take_add_one, (enL_ok hL (show k < L.length by omega)).1]; rfl
    rw [e1, mostL_snoc] at h1
    have h2 : (enL L (k + 1)).1 ≤ (enL L k).1 + 1 := by
      by_cases c : (enL L k).2.1 = none
      · rw [if_pos c] at h1; exact h1
      · rw [if_neg c] at h1; omega
    by_cases z : v = (enL L k).1
    · exact ⟨k, by omega, z.symm⟩
    · obtain ⟨j, j1, j2⟩ := ih (by omega) v (by omega)
      exact ⟨j, by omega, j2⟩
theorem fnd_ex {lv : Nat} : ∀ k, (∃ j, j < k ∧ (enL L j).1 + 1 = lv) → ∃ j, fndL L lv k = some j := by
  intro k
  induction k with
  | zero => rintro ⟨j, h, -⟩; omega
  | succ k ih =>
    rintro ⟨j, h1, h2⟩
    show ∃ j, (if (enL L k).1 + 1 = lv then some k else fndL L lv k) = some j
    by_cases c : (enL L k).1 + 1 = lv
    · rw [if_pos c]; exact ⟨k, rfl⟩
    · rw [if_neg c]
      refine ih ⟨j, ?_, h2⟩
      rcases Nat.lt_succ_iff_lt_or_eq.mp h1 with z | z
      · exact z
      · rw [z] at h2; exact absurd h2 c
theorem lv_eq {a lv : Nat} (ha : a < 1000) (hl : lv < 1000) : nI a = nI lv - 1 ↔ a + 1 = lv := by
  cases lv with
  | zero =>
    refine ⟨fun z => ?_, fun z => by omega⟩
    exact absurd (show nI a < 0 by rw [z]; decide) (nI_pos (by omega))
  | succ l =>
    rw [nI_pred, nI_eq (by omega) (by omega)]
    omega
end LOD
