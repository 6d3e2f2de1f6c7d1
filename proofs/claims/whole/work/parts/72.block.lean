/-! blocks of children -/
def bPul (T : Tr) (p k : Nat) : Nat → Tr × List Nat
  | 0 => (T, [])
  | n + 1 => (tPull (bPul T p k n).1 p k, (bPul T p k n).2 ++ [(tKids (bPul T p k n).1 p).getD k 0])
def bPut (t i : Nat) : Tr → Nat → List Nat → Tr ⊕ (Nat × Int32)
  | T, _, [] => .inl T
  | T, n, c :: l => if reaC T c t = 0 then bPut t i (tPut T t (i + n) c) (n + 1) l else .inr (n, reaC T c t)
theorem bPut_cons (t i : Nat) (T : Tr) (n c : Nat) (l : List Nat) : bPut t i T n (c :: l) = if reaC T c t = 0 then bPut t i (tPut T t (i + n) c) (n + 1) l else .inr (n, reaC T c t) := rfl
theorem bPul_ok {T : Tr} (h : tOk T) (p k : Nat) : ∀ n, tOk (bPul T p k n).1 := by
  intro n
  induction n with
  | zero => exact h
  | succ n ih => exact pull_ok ih p k
theorem bPul_pres (T : Tr) (p k : Nat) : ∀ n, tPres (bPul T p k n).1 = tPres T ∧ tMade (bPul T p k n).1 = tMade T := by
  intro n
  induction n with
  | zero => exact ⟨rfl, rfl⟩
  | succ n ih => exact ih
theorem bPul_way {T : Tr} (h : tOk T) (p k : Nat) : ∀ n q, tPres T q = true → wayT (bPul T p k n).1 q ≤ wayT T q := by
  intro n
  induction n with
  | zero => intro q _; exact Nat.le_refl _
  | succ n ih =>
    intro q hq
    exact Nat.le_trans (pull_way (bPul_ok h p k n) p k q (by rw [(bPul_pres T p k n).1]; exact hq)) (ih q hq)
theorem bPul_len (T : Tr) (p k : Nat) : ∀ n, (bPul T p k n).2.length = n := by
  intro n
  induction n with
  | zero => rfl
  | succ n ih => show ((bPul T p k n).2 ++ _).length = _; rw [List.length_append, ih]; rfl
theorem bPul_kids (T : Tr) (p k : Nat) : ∀ n i, i ≠ p → tKids (bPul T p k n).1 i = tKids T i := by
  intro n
  induction n with
  | zero => intro i _; rfl
  | succ n ih =>
    intro i hi
    show tKids (tPull _ p k) i = _
    rw [pull_kids, if_neg hi]
    exact ih i hi
theorem bPul_p (T : Tr) (p k : Nat) : ∀ n, k + n ≤ (tKids T p).length → (tKids (bPul T p k n).1 p).length = (tKids T p).length - n := by
  intro n
  induction n with
  | zero => intro _; rfl
  | succ n ih =>
    intro h
    show (tKids (tPull _ p k) p).length = _
    rw [pull_kids, if_pos rfl, List.length_eraseIdx_of_lt (by rw [ih (by omega)]; omega), ih (by omega)]
    omega
/-- what is taken away was there; what was there is there or is taken away -/
theorem bPul_mem {T : Tr} (p k : Nat) : ∀ n, k + n ≤ (tKids T p).length → (∀ c, c ∈ (bPul T p k n).2 → c ∈ tKids T p) ∧ ∀ c q, c ∈ tKids T q → c ∈ tKids (bPul T p k n).1 q ∨ c ∈ (bPul T p k n).2 := by
  intro n
  induction n with
  | zero => intro _; exact ⟨fun c hc => absurd hc (by show c ∉ []; simp), fun c q hc => Or.inl hc⟩
  | succ n ih =>
    intro h
    obtain ⟨h1, h2⟩ := ih (by omega)
    have hl := bPul_p T p k n (by omega)
    have hk : k < (tKids (bPul T p k n).1 p).length := by rw [hl]; omega
    have eg : (tKids (bPul T p k n).1 p).getD k 0 = (tKids (bPul T p k n).1 p)[k] := by rw [List.getD_eq_getElem?_getD, List.getElem?_eq_getElem hk]; rfl
    have hsub : ∀ c, c ∈ tKids (bPul T p k n).1 p → c ∈ tKids T p := by
      have : ∀ n, ∀ c, c ∈ tKids (bPul T p k n).1 p → c ∈ tKids T p := by
        intro n
        induction n with
        | zero => intro c hc; exact hc
        | succ n ih => intro c hc; exact ih c (pull_mem (T := (bPul T p k n).1) (p := p) (k := k) hc)
      exact this n
    constructor
    · intro c hc
      have hc' : c ∈ (bPul T p k n).2 ++ [(tKids (bPul T p k n).1 p).getD k 0] := hc
      rcases List.mem_append.mp hc' with z | z
      · exact h1 c z
      · rw [List.mem_singleton] at z
        rw [z, eg]
        exact hsub _ (List.getElem_mem hk)
    · intro c q hc
      show c ∈ tKids (tPull (bPul T p k n).1 p k) q ∨ c ∈ (bPul T p k n).2 ++ [(tKids (bPul T p k n).1 p).getD k 0]
      rcases h2 c q hc with z | z
      · rw [pull_kids]
        by_cases e : q = p
        · subst e
          rw [if_pos rfl]
          by_cases w : c = (tKids (bPul T q k n).1 q)[k]
          · right; rw [List.mem_append, eg, w]; simp
          · left
            rw [List.mem_eraseIdx_iff_getElem?]
            obtain ⟨j, hj, e2⟩ := List.mem_iff_getElem.mp z
            exact ⟨j, fun e3 => w (by subst e3; exact e2.symm), by rw [List.getElem?_eq_getElem hj, e2]⟩
        · rw [if_neg e]; exact Or.inl z
      · exact Or.inr (List.mem_append_left _ z)
theorem reaC_0 {T : Tr} (hT : tOk T) {c t : Nat} (ht : tPres T t = true) (h : reaC T c t = 0) : (tKids T t).length < 12 ∧ c ∉ tKids T t ∧ lb (famT T c) t = false ∧ reaP T t (1 + nI (wayT T c)) = 0 := by
  have h12 := (hT.2.2.2.1 t ht).1
  unfold reaC at h
  by_cases c1 : (tKids T t).length = 12
  · rw [if_pos c1] at h; exact absurd h (by decide)
  · rw [if_neg c1] at h
    by_cases c2 : c ∈ tKids T t
    · rw [if_pos c2] at h; exact absurd h (by decide)
    · rw [if_neg c2] at h
      by_cases c3 : lb (famT T c) t = true
      · rw [if_pos c3] at h; exact absurd h (by decide)
      · rw [if_neg c3] at h
        refine ⟨by omega, c2, ?_, h⟩
        cases e : lb (famT T c) t
        · rfl
        · exact absurd e c3
/-- one child is put: what is kept -/
theorem put_step {T : Tr} (hT : tOk T) (hw : wayT T 0 ≤ 300) {c t k : Nat} (ht : tPres T t = true) (hc : tPres T c = true) (hc0 : c ≠ 0) (hk : k ≤ (tKids T t).length) (hJ : ∀ q, tPres T q = true → lb (famT T q) t = false → wayT T q ≤ 300) (h : reaC T c t = 0) :
    tOk (tPut T t k c) ∧ wayT (tPut T t k c) 0 ≤ 300 ∧ (∀ q, tPres T q = true → lb (famT (tPut T t k c) q) t = false → wayT (tPut T t k c) q ≤ 300) := by
  obtain ⟨a1, a2, a3, a4⟩ := reaC_0 hT ht h
  have ht61 := tOk_lt hT ht
  have hok := put_ok hT ht hc hc0 hk a1 a2 a3
  have hwc := hJ c hc a3
  have hpl := plc_le hT ht
  have hb := reaP_0 (p := t) (n := 1 + wayT T c) hw (by omega) (by omega) (by rw [← nI_1l]; exact a4)
  refine ⟨hok, by rw [put_way hT hok ht hc hk a3]; exact hb, fun q hq hf => ?_⟩
  have hf2 : lb (famT T q) t = false := by
    cases e : lb (famT T q) t
    · rfl
    · rw [put_fam hT hok hk q hq t (by omega) e] at hf; cases hf
  rw [put_way_out hT hok q hq hf2 (by omega)]
  exact hJ q hq hf2
theorem bPut_ok {t i : Nat} : ∀ (l : List Nat) (T : Tr) (n : Nat), tOk T → wayT T 0 ≤ 300 → tPres T t = true → i + n ≤ (tKids T t).length → (∀ q, tPres T q = true → lb (famT T q) t = false → wayT T q ≤ 300) → (∀ c, c ∈ l → tPres T c = true ∧ c ≠ 0) →
    (∀ x, tPres T x = true → x ≠ 0 → (∃ p, tPres T p = true ∧ x ∈ tKids T p) ∨ x ∈ l) → ∀ T', bPut t i T n l = .inl T' → good T' ∧ tPres T' = tPres T ∧ tMade T' = tMade T := by
  intro l
  induction l with
  | nil =>
    intro T n h1 h2 h3 h4 h5 h6 h7 T' e
    cases e
    refine ⟨⟨h1, fun x hx h0 => (h7 x hx h0).elim id (fun z => by cases z), h2⟩, rfl, rfl⟩
  | cons c l ih =>
    intro T n h1 h2 h3 h4 h5 h6 h7 T' e
    unfold bPut at e
    by_cases r : reaC T c t = 0
    · rw [if_pos r] at e
      obtain ⟨c1, c2⟩ := h6 c List.mem_cons_self
      obtain ⟨s1, s2, s3⟩ := put_step h1 h2 h3 c1 c2 h4 h5 r
      have hm : ∀ x q, x ∈ tKids T q → x ∈ tKids (tPut T t (i + n) c) q := fun x q hx => (put_mem h4).mpr (Or.inr hx)
      obtain ⟨g1, g2, g3⟩ := ih (tPut T t (i + n) c) (n + 1) s1 s2 h3 (by rw [put_kids, if_pos rfl, List.length_insertIdx_of_le_length h4]; omega) s3 (fun x hx => h6 x (List.mem_cons_of_mem _ hx)) (fun x hx h0 => by
        rcases h7 x hx h0 with ⟨p, p1, p2⟩ | z
        · exact Or.inl ⟨p, p1, hm x p p2⟩
        · rcases List.mem_cons.mp z with z | z
          · exact Or.inl ⟨t, h3, (put_mem h4).mpr (Or.inl ⟨rfl, z⟩)⟩
          · exact Or.inr z) T' e
      exact ⟨g1, g2, g3⟩
    · rw [if_neg r] at e
      cases e
/-- some children of an item are moved -/
def moveT (T : Tr) (p f n t i : Nat) : Tr ⊕ (Nat × Int32) := bPut t i (bPul T p f n).1 0 (bPul T p f n).2
theorem moveT_good {T T' : Tr} (h : good T) {p f n t i : Nat} (hp : tPres T p = true) (ht : tPres T t = true) (hf : f + n ≤ (tKids T p).length) (hi : i ≤ (tKids (bPul T p f n).1 t).length) (e : moveT T p f n t i = .inl T') : good T' ∧ tPres T' = tPres T ∧ tMade T' = tMade T := by
  obtain ⟨h1, h2, h3⟩ := h
  have hok := bPul_ok h1 p f n
  obtain ⟨q1, q2⟩ := bPul_pres T p f n
  have hway : ∀ q, tPres T q = true → wayT (bPul T p f n).1 q ≤ 300 := fun q hq => Nat.le_trans (bPul_way h1 p f n q hq) (Nat.le_trans (way_le h1 h2 q hq) h3)
  obtain ⟨m1, m2⟩ := bPul_mem (T := T) p f n hf
  have := bPut_ok (bPul T p f n).2 (bPul T p f n).1 0 hok (hway 0 h1.1) (by rw [q1]; exact ht) hi (fun q hq _ => hway q (by rw [← q1]; exact hq)) (fun c hc => by
    have := tOk_kid h1 hp (m1 c hc)
    exact ⟨by rw [q1]; exact this.1, this.2.1⟩) (fun x hx h0 => by
    rw [q1] at hx
    obtain ⟨p', p1, p2⟩ := h2 x hx h0
    rcases m2 x p' p2 with z | z
    · exact Or.inl ⟨p', by rw [q1]; exact p1, z⟩
    · exact Or.inr z) T' e
  rw [q1, q2] at this
  exact this
/-! states that are kept sound -/
theorem good_hoist {A : As} {T : Tr} (hA : aOk A) : ∀ i, i ∈ chkH T (aHo A) → tPres T i = true := by
  intro i hi
  unfold chkH at hi
  by_cases c : ((aHo A).all fun i => tPres T i) = true
  · rw [if_pos c] at hi
    exact List.all_eq_true.mp c i hi
  · rw [if_neg c] at hi; cases hi
theorem chkH_len {A : As} {T : Tr} (hA : aOk A) : (chkH T (aHo A)).length ≤ 4 := by
  unfold chkH
  by_cases c : ((aHo A).all fun i => tPres T i) = true
  · rw [if_pos c]; exact hA.2.2.2.2.1
  · rw [if_neg c]; exact Nat.zero_le _
theorem keep_aOk {A : As} {T : Tr} (hA : aOk A) (hT : good T) (hN : tName T 0 = []) : aOk (aKeep A T) := by
  have hl := chkH_len (T := T) hA
  have hh := good_hoist (T := T) hA
  obtain ⟨b1, b2, b3, b4, b5, b6, b7, b8, b9, b10, b11, b12, m1, m2, m3⟩ := hA
  refine ⟨hT, b2, fun U hU => ?_, ?_, hl, hh, b7, b8, b9, b10, b11, b12, hN, m2, fun U hU => ?_⟩
  · have hU' : U ∈ pushH (aHi A) (aT A) := hU
    unfold pushH at hU'
    by_cases c : (aHi A).length = 8
    · rw [if_pos c, List.mem_append] at hU'
      rcases hU' with z | z
      · exact b3 U (List.mem_of_mem_tail z)
      · rw [List.mem_singleton] at z; rw [z]; exact b1
    · rw [if_neg c, List.mem_append] at hU'
      rcases hU' with z | z
      · exact b3 U z
      · rw [List.mem_singleton] at z; rw [z]; exact b1
  · show (pushH (aHi A) (aT A)).length ≤ 8
    unfold pushH
    by_cases c : (aHi A).length = 8
    · rw [if_pos c, List.length_append, List.length_tail, c, List.length_singleton]; decide
    · rw [if_neg c, List.length_append, List.length_singleton]; omega
  · have hU' : U ∈ pushH (aHi A) (aT A) := hU
    unfold pushH at hU'
    by_cases c : (aHi A).length = 8
    · rw [if_pos c, List.mem_append] at hU'
      rcases hU' with z | z
      · exact m3 U (List.mem_of_mem_tail z)
      · rw [List.mem_singleton] at z; rw [z]; exact m1
    · rw [if_neg c, List.mem_append] at hU'
      rcases hU' with z | z
      · exact m3 U z
      · rw [List.mem_singleton] at z; rw [z]; exact m1
theorem keep_aOk_len {A : As} {T : Tr} (hA : aOk A) : (aHi (aKeep A T)).length ≤ 8 := by
  have := hA.2.2.2.1
  show (pushH (aHi A) (aT A)).length ≤ 8
  unfold pushH
  by_cases c : (aHi A).length = 8
  · rw [if_pos c, List.length_append, List.length_tail, c, List.length_singleton]; decide
  · rw [if_neg c, List.length_append, List.length_singleton]; omega
theorem ch_aOk {A : As} (hA : aOk A) {l : List Int32} (hl : l.length ≤ 3) : aOk (aSetCh A l) := by
  obtain ⟨b1, b2, b3, b4, b5, b6, b7, b8, b9, b10, b11⟩ := hA
  exact ⟨b1, b2, b3, b4, b5, b6, b7, b8, b9, hl, b11⟩
/-- same links, same figures -/
theorem way_cg {T T' : Tr} (e1 : tPres T' = tPres T) (e2 : tKids T' = tKids T) (hT : tOk T) (hT' : tOk T') : ∀ q, tPres T q = true → wayT T' q = wayT T q := by
  refine dag_ind hT _ (fun q hq ih => ?_)
  rw [way_eq hT hq, way_eq hT' (by rw [e1]; exact hq), e2]
  congr 1
  exact List.map_congr_left (fun d hd => by rw [ih d hd])
theorem good_cg {T T' : Tr} (h : good T) (e0 : tMade T' = tMade T) (e1 : tPres T' = tPres T) (e2 : tKids T' = tKids T) (e3 : ∀ i, tPres T i = true → (tName T' i).length ≤ 10 ∧ ∀ x, x ∈ tName T' i → 97 ≤ x ∧ x ≤ 122) : good T' := by
  obtain ⟨h1, h2, h3⟩ := h
  have hok : tOk T' := by
    obtain ⟨k1, k2, k3, k4, k5, k6⟩ := h1
    refine ⟨by rw [e1]; exact k1, by rw [e0]; exact k2, fun i hi => by rw [e0]; exact k3 i (by rw [← e1]; exact hi), fun i hi => ?_, fun i hi => e3 i (by rw [← e1]; exact hi), ?_⟩
    · rw [e2, e1]; exact k4 i (by rw [← e1]; exact hi)
    · obtain ⟨rk, hr⟩ := k6
      exact ⟨rk, fun i hi c hc => hr i (by rw [← e1]; exact hi) c (by rw [← e2]; exact hc)⟩
  refine ⟨hok, fun i hi h0 => ?_, by rw [way_cg e1 e2 h1 hok 0 h1.1]; exact h3⟩
  obtain ⟨p, p1, p2⟩ := h2 i (by rw [← e1]; exact hi) h0
  exact ⟨p, by rw [e1]; exact p1, by rw [e2]; exact p2⟩
theorem good_new : good tNew := by
  have hok : tOk tNew := by
    refine ⟨rfl, Nat.zero_le _, fun i hi => ?_, fun i hi => ⟨Nat.zero_le _, List.nodup_nil, fun c hc => by cases hc⟩, fun i hi => ⟨Nat.zero_le _, fun x hx => by cases hx⟩, fun _ => 0, fun i hi c hc => by cases hc⟩
    have : i = 0 := of_decide_eq_true hi
    omega
  refine ⟨hok, fun i hi h0 => absurd (of_decide_eq_true hi) h0, ?_⟩
  rw [way_eq hok rfl]
  exact Nat.zero_le _
theorem detach_good {T : Tr} (h : good T) (p k : Nat) : good (tKeep (tPull T p k) (lb (famT (tPull T p k) 0))) := by
  obtain ⟨h1, h2, h3⟩ := h
  have hok := pull_ok h1 p k
  refine ⟨keep_ok hok, keep_all hok, ?_⟩
  rw [keep_way hok 0 (keep_ok hok).1]
  exact Nat.le_trans (pull_way h1 p k 0 h1.1) h3
/-- a new item, put at once -/
theorem mk_ok {T : Tr} (hT : tOk T) {nm : List Int32} (hm : tMade T < 60) (hn : nm.length ≤ 10 ∧ ∀ x, x ∈ nm → 97 ≤ x ∧ x ≤ 122) : tOk (tMk T nm) := by
  have hT0 := hT
  obtain ⟨k1, k2, k3, k4, k5, rk, k6⟩ := hT
  have np : ∀ i, tPres T i = true → i ≠ tMade T + 1 := fun i hi => by have := k3 i hi; omega
  have ne : ∀ i, i ≠ tMade T + 1 → tPres (tMk T nm) i = tPres T i ∧ tKids (tMk T nm) i = tKids T i ∧ tName (tMk T nm) i = tName T i := fun i hi => ⟨pu_ne _ _ _ hi, pu_ne _ _ _ hi, pu_ne _ _ _ hi⟩
  have at' : tPres (tMk T nm) (tMade T + 1) = true ∧ tKids (tMk T nm) (tMade T + 1) = [] ∧ tName (tMk T nm) (tMade T + 1) = nm := ⟨pu_at _ _ _, pu_at _ _ _, pu_at _ _ _⟩
  refine ⟨by rw [(ne 0 (by omega)).1]; exact k1, by show tMade T + 1 ≤ 60; omega, fun i hi => ?_, fun i hi => ?_, fun i hi => ?_, rk, fun i hi c hc => ?_⟩
  · show i ≤ tMade T + 1
    by_cases c : i = tMade T + 1
    · omega
    · rw [(ne i c).1] at hi
      have := k3 i hi
      omega
  · by_cases c : i = tMade T + 1
    · subst c
      rw [at'.2.1]
      exact ⟨Nat.zero_le _, List.nodup_nil, fun c hc => by cases hc⟩
    · rw [(ne i c).1] at hi
      rw [(ne i c).2.1]
      refine ⟨(k4 i hi).1, (k4 i hi).2.1, fun d hd => ?_⟩
      have := (k4 i hi).2.2 d hd
      exact ⟨by rw [(ne d (np d this.1)).1]; exact this.1, this.2⟩
  · by_cases c : i = tMade T + 1
    · subst c; rw [at'.2.2]; exact hn
    · rw [(ne i c).1] at hi
      rw [(ne i c).2.2]; exact k5 i hi
  · by_cases c' : i = tMade T + 1
    · subst c'
      rw [at'.2.1] at hc
      cases hc
    · rw [(ne i c').1] at hi
      rw [(ne i c').2.1] at hc
      exact k6 i hi c hc
theorem mk_kids {T : Tr} (hT : tOk T) (nm : List Int32) {i : Nat} (hi : tPres T i = true) : tKids (tMk T nm) i = tKids T i := by
  have := hT.2.2.1 i hi
  exact pu_ne _ _ _ (by omega)
theorem mk_pres {T : Tr} (hT : tOk T) (nm : List Int32) {i : Nat} (hi : tPres T i = true) : tPres (tMk T nm) i = true := by
  have := hT.2.2.1 i hi
  show pu (tPres T) _ true i = true
  rw [pu_ne _ _ _ (by omega)]; exact hi
theorem mk_way {T : Tr} (hT : tOk T) {nm : List Int32} (h' : tOk (tMk T nm)) : ∀ q, tPres T q = true → wayT (tMk T nm) q = wayT T q := by
  refine dag_ind hT _ (fun q hq ih => ?_)
  rw [way_eq hT hq, way_eq h' (mk_pres hT nm hq), mk_kids hT nm hq]
  congr 1
  exact List.map_congr_left (fun d hd => by rw [ih d hd])
theorem mk_fam {T : Tr} (hT : tOk T) {nm : List Int32} (h' : tOk (tMk T nm)) (i : Nat) (hi : i < 64) : lb (famT (tMk T nm) (tMade T + 1)) i = decide (i = tMade T + 1) := by
  have hm : tPres (tMk T nm) (tMade T + 1) = true := pu_at _ _ _
  have hk : tKids (tMk T nm) (tMade T + 1) = [] := pu_at _ _ _
  have := lb_fam h' hm hi
  rw [hk] at this
  cases e : lb (famT (tMk T nm) (tMade T + 1)) i
  · rw [e] at this
    by_cases c : i = tMade T + 1
    · exact absurd (this.mpr (Or.inl c)) (by decide)
    · simp [c]
  · rw [e] at this
    rcases this.mp rfl with z | ⟨c, hc, -⟩
    · simp [z]
    · cases hc
/-- places of the others, when an item is new -/
theorem mk_put {T : Tr} (h : good T) {nm : List Int32} {p k : Nat} (hp : tPres T p = true) (hk : k ≤ (tKids T p).length) (hn : nm.length ≤ 10 ∧ ∀ x, x ∈ nm → 97 ≤ x ∧ x ≤ 122) (hr : reaN T p = 0) : good (tPut (tMk T nm) p k (tMade T + 1)) := by
  obtain ⟨h1, h2, h3⟩ := h
  have hm60 : tMade T < 60 ∧ (tKids T p).length < 12 ∧ reaP T p 1 = 0 := by
    unfold reaN at hr
    by_cases c : tMade T = 60 ∨ (tKids T p).length = 12
    · rw [if_pos c] at hr; exact absurd hr (by decide)
    · rw [if_neg c] at hr
      have := h1.2.1
      have := (h1.2.2.2.1 p hp).1
      simp only [not_or] at c
      exact ⟨by omega, by omega, hr⟩
  obtain ⟨c1, c2, c3⟩ := hm60
  have hok := mk_ok h1 c1 hn
  have hM : tPres (tMk T nm) (tMade T + 1) = true := pu_at _ _ _
  have hp' := mk_pres h1 nm hp
  have hpM : p ≠ tMade T + 1 := by have := h1.2.2.1 p hp; omega
  have hp61 := tOk_lt h1 hp
  have hkids := mk_kids h1 nm hp
  have hf : lb (famT (tMk T nm) (tMade T + 1)) p = false := by rw [mk_fam h1 hok p (by omega)]; exact decide_eq_false hpM
  have hnk : tMade T + 1 ∉ tKids (tMk T nm) p := by
    rw [hkids]
    intro z
    have := h1.2.2.1 _ (tOk_kid h1 hp z).1
    omega
  have hok2 := put_ok hok hp' hM (by omega) (k := k) (by rw [hkids]; exact hk) (by rw [hkids]; exact c2) hnk hf
  refine ⟨hok2, fun i hi h0 => ?_, ?_⟩
  · by_cases c : i = tMade T + 1
    · exact ⟨p, hp', (put_mem (by rw [hkids]; exact hk)).mpr (Or.inl ⟨rfl, c⟩)⟩
    · have hi' : tPres T i = true := by
        have : pu (tPres T) (tMade T + 1) true i = true := hi
        rw [pu_ne _ _ _ c] at this; exact this
      obtain ⟨q, q1, q2⟩ := h2 i hi' h0
      exact ⟨q, mk_pres h1 nm q1, (put_mem (by rw [hkids]; exact hk)).mpr (Or.inr (by rw [mk_kids h1 nm q1]; exact q2))⟩
  · have hk' : k ≤ (tKids (tMk T nm) p).length := by rw [hkids]; exact hk
    have hwM : wayT (tPut (tMk T nm) p k (tMade T + 1)) (tMade T + 1) = 0 := by
      rw [way_eq hok2 hM, put_kids, if_neg (fun z => hpM z.symm)]
      have : tKids (tMk T nm) (tMade T + 1) = [] := pu_at _ _ _
      rw [this]; rfl
    have e := pot h1 (wayT (tPut (tMk T nm) p k (tMade T + 1))) (fun q => if q = p then 1 else 0) (fun q hq => by
      rw [way_eq hok2 (mk_pres h1 nm hq), put_kids]
      by_cases e : q = p
      · subst e
        rw [if_pos rfl, if_pos rfl, ((List.perm_insertIdx (tMade T + 1) (tKids (tMk T nm) q) hk').map _).sum_nat, List.map_cons, List.sum_cons, hwM, hkids]
      · rw [if_neg e, if_neg e, Nat.zero_add, mk_kids h1 nm hq])
    have e2 : ((ordT T).map fun q => plcT T q * (if q = p then 1 else 0)).sum = plcT T p := by
      have := sum_one (ord_nodup h1) ((ord_mem h1 p).mpr hp) (plcT T)
      rw [← this]
      congr 1
      refine List.map_congr_left (fun q _ => ?_)
      by_cases e : q = p
      · rw [if_pos e, if_pos e, Nat.mul_one]
      · rw [if_neg e, if_neg e, Nat.mul_zero]
    rw [e2, ← way_sum h1] at e
    have hb := reaP_0 (p := p) (n := 1) h3 (by have := plc_le h1 hp; omega) (by decide) c3
    omega
