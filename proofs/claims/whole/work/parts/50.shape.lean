/-! the pure layer: results, loops, shapes of objects. cI, cJ: what an array's cell holds; fI, fJ: an object's fields; wI, wJ, wF: a heap with one write more -/
def wp {α : Type} (o : Option α) (P : α → Prop) : Prop := ∃ r, o = some r ∧ P r
theorem wp_some {α : Type} {r : α} {P : α → Prop} (h : P r) : wp (some r) P := ⟨r, rfl, h⟩
theorem wp_of {α : Type} {o : Option α} {r : α} {P : α → Prop} (e : o = some r) (h : P r) : wp o P := ⟨r, e, h⟩
theorem wp_bind {α β : Type} {o : Option α} {f : α → Option β} {P : β → Prop} (h : wp o (fun x => wp (f x) P)) : wp (o.bind f) P := by
  obtain ⟨r, rfl, h⟩ := h
  exact h
theorem wp_mono {α : Type} {o : Option α} {P Q : α → Prop} (h : wp o P) (k : ∀ x, P x → Q x) : wp o Q := by
  obtain ⟨r, e, h⟩ := h
  exact ⟨r, e, k r h⟩
theorem iter_up {σ β : Type} {F : σ → Option (σ ⊕ β)} (I : Nat → σ → Prop) {P : β → Prop} (e : Nat) (hx : ∀ s, I e s → wp (F s) (Sum.elim (fun _ => False) P)) (hs : ∀ i s, i < e → I i s → wp (F s) (Sum.elim (I (i + 1)) P)) :
    ∀ n i s, i ≤ e → I i s → e - i < n → wp (iter F n s) P := by
  intro n
  induction n with
  | zero => intro i s _ _ h; omega
  | succ n ih =>
    intro i s hi h hn
    by_cases c : i < e
    · obtain ⟨r, er, hr⟩ := hs i s c h
      cases r with
      | inl s' =>
        obtain ⟨q, eq, hq⟩ := ih (i + 1) s' (by omega) hr (by omega)
        exact ⟨q, by show (F s).bind _ = some q; rw [er]; exact eq, hq⟩
      | inr b => exact ⟨b, by show (F s).bind _ = some b; rw [er]; rfl, hr⟩
    · have : i = e := by omega
      subst this
      obtain ⟨r, er, hr⟩ := hx s h
      cases r with
      | inl s' => exact hr.elim
      | inr b => exact ⟨b, by show (F s).bind _ = some b; rw [er]; rfl, hr⟩
/-- a loop of at most e turns; I i: what holds after i turns -/
theorem iter_fu {σ β : Type} {F : σ → Option (σ ⊕ β)} (I : Nat → σ → Prop) {P : β → Prop} (e : Nat) (he : e < 1000000) {s : σ} (h : I 0 s) (hx : ∀ s, I e s → wp (F s) (Sum.elim (fun _ => False) P)) (hs : ∀ i s, i < e → I i s → wp (F s) (Sum.elim (I (i + 1)) P)) : wp (iter F fu s) P :=
  iter_up I e hx hs fu 0 s (Nat.zero_le _) h (by unfold fu; omega)
/-- a loop with a measure that falls -/
theorem iter_me {σ β : Type} {F : σ → Option (σ ⊕ β)} (I : σ → Prop) (μ : σ → Nat) {P : β → Prop} (hs : ∀ s, I s → wp (F s) (Sum.elim (fun s' => I s' ∧ μ s' < μ s) P)) : ∀ n s, I s → μ s < n → wp (iter F n s) P := by
  intro n
  induction n with
  | zero => intro s _ h; omega
  | succ n ih =>
    intro s h hn
    obtain ⟨r, er, hr⟩ := hs s h
    cases r with
    | inl s' =>
      obtain ⟨q, eq, hq⟩ := ih s' hr.1 (by have := hr.2; omega)
      exact ⟨q, by show (F s).bind _ = some q; rw [er]; exact eq, hq⟩
    | inr b => exact ⟨b, by show (F s).bind _ = some b; rw [er]; rfl, hr⟩
theorem iter_mf {σ β : Type} {F : σ → Option (σ ⊕ β)} (I : σ → Prop) (μ : σ → Nat) {P : β → Prop} {s : σ} (h : I s) (hm : μ s < 1000000) (hs : ∀ s, I s → wp (F s) (Sum.elim (fun s' => I s' ∧ μ s' < μ s) P)) : wp (iter F fu s) P :=
  iter_me I μ hs fu s h (by unfold fu; omega)
abbrev cS : Type := (Nat × List (Nat ⊕ Bool)) ⊕ (FieldType × Nat)
def okF (a : Nat) (v : Value) (x : Nat ⊕ Bool) : Prop := match x with
  | .inl j => v = .ref (a + j)
  | .inr true => ∃ y, v = .long y
  | .inr false => ∃ y, v = .int y
def okC (a : Nat) (e : pE) (x : cS) : Prop := match x with
  | .inl q => ∃ f, e = .inr (q.1, f) ∧ ∀ k y, q.2[k]? = some y → okF a (f k) y
  | .inr q => if q.1 = .long then ∃ f, e = .inl (.long, q.2, .inr (.inl f)) else ∃ f, e = .inl (q.1, q.2, .inl f) ∧ ∀ i, fits q.1 (.int (f i)) = true
/-- at a lies an object of the shape sp, with its own arrays behind it -/
def Sh (S : pS) (a : Nat) (sp : List cS) : Prop := a + sp.length ≤ S.1 ∧ ∀ i x, sp[i]? = some x → okC a (S.2 (a + i)) x
def cI (e : pE) : Nat → Int32 := match e with
  | .inl (_, _, .inl f) => f
  | _ => fun _ => 0
def cJ (e : pE) : Nat → Int64 := match e with
  | .inl (_, _, .inr (.inl f)) => f
  | _ => fun _ => 0
def fI (e : pE) (k : Nat) : Int32 := match e with
  | .inr (_, f) => (match f k with
    | .int x => x
    | _ => 0)
  | _ => 0
def fJ (e : pE) (k : Nat) : Int64 := match e with
  | .inr (_, f) => (match f k with
    | .long x => x
    | _ => 0)
  | _ => 0
def upI (e : pE) (i : Nat) (v : Int32) : pE := match e with
  | .inl (ty, n, .inl f) => .inl (ty, n, .inl (pu f i (vp_nar ty v)))
  | e => e
def upJ (e : pE) (i : Nat) (v : Int64) : pE := match e with
  | .inl (ty, n, .inr (.inl f)) => .inl (ty, n, .inr (.inl (pu f i v)))
  | e => e
def upF (e : pE) (k : Nat) (v : Value) : pE := match e with
  | .inr (c, f) => .inr (c, pu f k v)
  | e => e
def wI (S : pS) (q i : Nat) (v : Int32) : pS := (S.1, pu S.2 q (upI (S.2 q) i v))
def wJ (S : pS) (q i : Nat) (v : Int64) : pS := (S.1, pu S.2 q (upJ (S.2 q) i v))
def wF (S : pS) (q k : Nat) (v : Value) : pS := (S.1, pu S.2 q (upF (S.2 q) k v))
theorem wI_at (S : pS) (q i : Nat) (v : Int32) : (wI S q i v).2 q = upI (S.2 q) i v := pu_at _ _ _
theorem wI_ne (S : pS) {q j : Nat} (i : Nat) (v : Int32) (h : j ≠ q) : (wI S q i v).2 j = S.2 j := pu_ne _ _ _ h
theorem wJ_at (S : pS) (q i : Nat) (v : Int64) : (wJ S q i v).2 q = upJ (S.2 q) i v := pu_at _ _ _
theorem wJ_ne (S : pS) {q j : Nat} (i : Nat) (v : Int64) (h : j ≠ q) : (wJ S q i v).2 j = S.2 j := pu_ne _ _ _ h
theorem wF_at (S : pS) (q k : Nat) (v : Value) : (wF S q k v).2 q = upF (S.2 q) k v := pu_at _ _ _
theorem wF_ne (S : pS) {q j : Nat} (k : Nat) (v : Value) (h : j ≠ q) : (wF S q k v).2 j = S.2 j := pu_ne _ _ _ h
theorem wI_1 (S : pS) (q i : Nat) (v : Int32) : (wI S q i v).1 = S.1 := rfl
theorem wJ_1 (S : pS) (q i : Nat) (v : Int64) : (wJ S q i v).1 = S.1 := rfl
theorem wF_1 (S : pS) (q k : Nat) (v : Value) : (wF S q k v).1 = S.1 := rfl
theorem vnar_int (x : Int32) : vp_nar .int x = x := rfl
theorem fits_int (x : Int32) : fits .int (.int x) = true := rfl
theorem nar_fits {ty : FieldType} {x0 : Int32} (h : fits ty (.int x0) = true) (x : Int32) : fits ty (.int (vp_nar ty x)) = true := by
  cases ty with
  | boolean =>
    have e : vp_nar .boolean x = x &&& 1 := rfl
    rw [e, pk_and x 1 (by decide)]
    have : x.toBitVec.toNat % 2 ^ 1 = 0 ∨ x.toBitVec.toNat % 2 ^ 1 = 1 := by omega
    rcases this with h | h <;> rw [h] <;> decide
  | byte => rw [vp_nar_byte]; exact pk_fb x
  | char => rw [vp_nar_char, UInt32.toUInt32_toUInt16]; exact pk_fc x
  | short => rw [vp_nar_short]; exact pk_fs x
  | int => rfl
  | _ => cases h
theorem sh_len {sp : List cS} {j : Nat} {x : cS} (e : sp[j]? = some x) : j < sp.length := (List.getElem?_eq_some_iff.mp e).1
theorem sh_obj {S : pS} {a c : Nat} {sp : List cS} {fs : List (Nat ⊕ Bool)} (h : Sh S a sp) (e : sp[0]? = some (.inl (c, fs))) : ∃ f, oF S a c = some f ∧ S.2 a = .inr (c, f) ∧ ∀ k y, fs[k]? = some y → okF a (f k) y := by
  have h0 := h.2 0 _ e
  rw [Nat.add_zero] at h0
  obtain ⟨f, e1, e2⟩ := h0
  have := h.1
  have := sh_len e
  exact ⟨f, oF_mk (by omega) e1, e1, e2⟩
theorem sh_oF {S : pS} {a c : Nat} {sp : List cS} {fs : List (Nat ⊕ Bool)} {β : Type} {k : Option β} (h : Sh S a sp) (e : sp[0]? = some (.inl (c, fs))) : ((oF S a c).bind fun _ => k) = k := by
  obtain ⟨f, e1, -⟩ := sh_obj h e
  rw [e1]; rfl
theorem sh_GA {S : pS} {a c k j : Nat} {sp : List cS} {fs : List (Nat ⊕ Bool)} (h : Sh S a sp) (e : sp[0]? = some (.inl (c, fs))) (ek : fs[k]? = some (.inl j)) : oGA S a c k = some (a + j) := by
  obtain ⟨f, e1, -, e3⟩ := sh_obj h e
  have e4 : f k = .ref (a + j) := e3 k _ ek
  unfold oGA
  rw [e1, Option.bind_some, e4]
theorem sh_GI {S : pS} {a c k : Nat} {sp : List cS} {fs : List (Nat ⊕ Bool)} (h : Sh S a sp) (e : sp[0]? = some (.inl (c, fs))) (ek : fs[k]? = some (.inr false)) : oGI S a c k = some (fI (S.2 a) k) := by
  obtain ⟨f, e1, e2, e3⟩ := sh_obj h e
  obtain ⟨y, e4⟩ : ∃ y, f k = .int y := e3 k _ ek
  unfold oGI fI
  rw [e1, Option.bind_some, e2]
  simp only [e4]
theorem sh_GJ {S : pS} {a c k : Nat} {sp : List cS} {fs : List (Nat ⊕ Bool)} (h : Sh S a sp) (e : sp[0]? = some (.inl (c, fs))) (ek : fs[k]? = some (.inr true)) : oGJ S a c k = some (fJ (S.2 a) k) := by
  obtain ⟨f, e1, e2, e3⟩ := sh_obj h e
  obtain ⟨y, e4⟩ : ∃ y, f k = .long y := e3 k _ ek
  unfold oGJ fJ
  rw [e1, Option.bind_some, e2]
  simp only [e4]
theorem sh_P {S : pS} {a c k : Nat} {sp : List cS} {fs : List (Nat ⊕ Bool)} (h : Sh S a sp) (e : sp[0]? = some (.inl (c, fs))) (v : Value) : oP S a c k v = some (wF S a k v) := by
  obtain ⟨f, e1, e2, e3⟩ := sh_obj h e
  unfold oP wF
  rw [e1, Option.bind_some, e2]
  rfl
theorem sh_arr {S : pS} {a j n : Nat} {ty : FieldType} {sp : List cS} (h : Sh S a sp) (e : sp[j]? = some (.inr (ty, n))) (ht : ty ≠ .long) : a + j < S.1 ∧ ∃ f, S.2 (a + j) = .inl (ty, n, .inl f) ∧ ∀ i, fits ty (.int (f i)) = true := by
  have h0 := h.2 j _ e
  have := h.1
  have := sh_len e
  unfold okC at h0
  simp only [if_neg ht] at h0
  exact ⟨by omega, h0⟩
theorem sh_arJ {S : pS} {a j n : Nat} {sp : List cS} (h : Sh S a sp) (e : sp[j]? = some (.inr (.long, n))) : a + j < S.1 ∧ ∃ f, S.2 (a + j) = .inl (.long, n, .inr (.inl f)) := by
  have h0 := h.2 j _ e
  have := h.1
  have := sh_len e
  unfold okC at h0
  simp only [if_true] at h0
  exact ⟨by omega, h0⟩
theorem sh_AI {S : pS} {a j n i : Nat} {ty : FieldType} {sp : List cS} (h : Sh S a sp) (e : sp[j]? = some (.inr (ty, n))) (ht : ty ≠ .long) (hi : i < n) (hn : n < 2 ^ 31) : oAI S (a + j) ty (nI i) = some (cI (S.2 (a + j)) i) := by
  obtain ⟨h1, f, h2, -⟩ := sh_arr h e ht
  unfold oAI
  rw [oArI_mk h1 h2, Option.bind_some, if_neg (nI_in hi hn), nI_clamp (by omega), h2]
  rfl
theorem sh_SI {S : pS} {a j n i : Nat} {ty : FieldType} {sp : List cS} (h : Sh S a sp) (e : sp[j]? = some (.inr (ty, n))) (ht : ty ≠ .long) (hi : i < n) (hn : n < 2 ^ 31) {v : Int32} : oSI S (a + j) ty (nI i) v = some (wI S (a + j) i v) := by
  obtain ⟨h1, f, h2, -⟩ := sh_arr h e ht
  unfold oSI wI
  rw [oArI_mk h1 h2, Option.bind_some, if_neg (nI_in hi hn), nI_clamp (by omega), h2]
  rfl
theorem sh_AJ {S : pS} {a j n i : Nat} {sp : List cS} (h : Sh S a sp) (e : sp[j]? = some (.inr (.long, n))) (hi : i < n) (hn : n < 2 ^ 31) : oAJ S (a + j) .long (nI i) = some (cJ (S.2 (a + j)) i) := by
  obtain ⟨h1, f, h2⟩ := sh_arJ h e
  unfold oAJ
  rw [oArJ_mk h1 h2, Option.bind_some, if_neg (nI_in hi hn), nI_clamp (by omega), h2]
  rfl
theorem sh_SJ {S : pS} {a j n i : Nat} {sp : List cS} (h : Sh S a sp) (e : sp[j]? = some (.inr (.long, n))) (hi : i < n) (hn : n < 2 ^ 31) {v : Int64} : oSJ S (a + j) .long (nI i) v = some (wJ S (a + j) i v) := by
  obtain ⟨h1, f, h2⟩ := sh_arJ h e
  unfold oSJ wJ
  rw [oArJ_mk h1 h2, Option.bind_some, if_neg (nI_in hi hn), nI_clamp (by omega), h2]
  rfl
theorem sh_vI {S : pS} {a j n : Nat} {ty : FieldType} {sp : List cS} (h : Sh S a sp) (e : sp[j]? = some (.inr (ty, n))) (ht : ty ≠ .long) {v : Int32} (hv : vp_nar ty v = v) (i : Nat) : cI ((wI S (a + j) i v).2 (a + j)) = pu (cI (S.2 (a + j))) i v := by
  obtain ⟨h1, f, h2, -⟩ := sh_arr h e ht
  rw [wI_at, h2]
  show pu f i (vp_nar ty v) = pu f i v
  rw [hv]
theorem sh_vJ {S : pS} {a j n : Nat} {sp : List cS} (h : Sh S a sp) (e : sp[j]? = some (.inr (.long, n))) (i : Nat) (v : Int64) : cJ ((wJ S (a + j) i v).2 (a + j)) = pu (cJ (S.2 (a + j))) i v := by
  obtain ⟨h1, f, h2⟩ := sh_arJ h e
  rw [wJ_at, h2]
  rfl
theorem fI_wF_ne (S : pS) (a : Nat) {k k' : Nat} (v : Value) (h : k' ≠ k) : fI ((wF S a k v).2 a) k' = fI (S.2 a) k' := by
  rw [wF_at]
  cases e : S.2 a with
  | inl q => rfl
  | inr q => show (match pu q.2 k v k' with | .int x => x | _ => 0) = _; rw [pu_ne _ _ _ h]; rfl
theorem fJ_wF_ne (S : pS) (a : Nat) {k k' : Nat} (v : Value) (h : k' ≠ k) : fJ ((wF S a k v).2 a) k' = fJ (S.2 a) k' := by
  rw [wF_at]
  cases e : S.2 a with
  | inl q => rfl
  | inr q => show (match pu q.2 k v k' with | .long x => x | _ => 0) = _; rw [pu_ne _ _ _ h]; rfl
theorem sh_vFI {S : pS} {a c k : Nat} {sp : List cS} {fs : List (Nat ⊕ Bool)} (h : Sh S a sp) (e : sp[0]? = some (.inl (c, fs))) (v : Int32) : fI ((wF S a k (.int v)).2 a) k = v := by
  obtain ⟨f, e1, e2, e3⟩ := sh_obj h e
  rw [wF_at, e2]
  show (match pu f k (.int v) k with | .int x => x | _ => 0) = v
  rw [pu_at]
theorem sh_vFJ {S : pS} {a c k : Nat} {sp : List cS} {fs : List (Nat ⊕ Bool)} (h : Sh S a sp) (e : sp[0]? = some (.inl (c, fs))) (v : Int64) : fJ ((wF S a k (.long v)).2 a) k = v := by
  obtain ⟨f, e1, e2, e3⟩ := sh_obj h e
  rw [wF_at, e2]
  show (match pu f k (.long v) k with | .long x => x | _ => 0) = v
  rw [pu_at]
/-- a shape speaks of its own cells alone -/
theorem sh_fr {S S' : pS} {a : Nat} {sp : List cS} (h : Sh S a sp) (h1 : S.1 ≤ S'.1) (h2 : ∀ q, a ≤ q → q < a + sp.length → S'.2 q = S.2 q) : Sh S' a sp :=
  ⟨Nat.le_trans h.1 h1, fun i x e => by rw [h2 (a + i) (by omega) (by have := sh_len e; omega)]; exact h.2 i x e⟩
theorem okC_I {a i : Nat} {e : pE} {x : cS} {v : Int32} (h : okC a e x) : okC a (upI e i v) x := by
  cases x with
  | inl q =>
    obtain ⟨f, rfl, h2⟩ := h
    exact ⟨f, rfl, h2⟩
  | inr q =>
    unfold okC at h ⊢
    by_cases c : q.1 = .long
    · simp only [if_pos c] at h ⊢
      obtain ⟨f, rfl⟩ := h
      exact ⟨f, rfl⟩
    · simp only [if_neg c] at h ⊢
      obtain ⟨f, rfl, h2⟩ := h
      refine ⟨pu f i (vp_nar q.1 v), rfl, fun j => ?_⟩
      by_cases cj : j = i
      · subst cj; rw [pu_at]; exact nar_fits (h2 0) v
      · rw [pu_ne _ _ _ cj]; exact h2 j
theorem okC_J {a i : Nat} {e : pE} {x : cS} {v : Int64} (h : okC a e x) : okC a (upJ e i v) x := by
  cases x with
  | inl q =>
    obtain ⟨f, rfl, h2⟩ := h
    exact ⟨f, rfl, h2⟩
  | inr q =>
    unfold okC at h ⊢
    by_cases c : q.1 = .long
    · simp only [if_pos c] at h ⊢
      obtain ⟨f, rfl⟩ := h
      exact ⟨pu f i v, rfl⟩
    · simp only [if_neg c] at h ⊢
      obtain ⟨f, rfl, h2⟩ := h
      exact ⟨f, rfl, h2⟩
theorem sh_wI {S : pS} {a : Nat} {sp : List cS} (h : Sh S a sp) (q i : Nat) (v : Int32) : Sh (wI S q i v) a sp := by
  refine ⟨h.1, fun j x e => ?_⟩
  by_cases c : a + j = q
  · subst c; rw [wI_at]; exact okC_I (h.2 j x e)
  · rw [wI_ne _ _ _ c]; exact h.2 j x e
theorem sh_wJ {S : pS} {a : Nat} {sp : List cS} (h : Sh S a sp) (q i : Nat) (v : Int64) : Sh (wJ S q i v) a sp := by
  refine ⟨h.1, fun j x e => ?_⟩
  by_cases c : a + j = q
  · subst c; rw [wJ_at]; exact okC_J (h.2 j x e)
  · rw [wJ_ne _ _ _ c]; exact h.2 j x e
/-- one object at the head, arrays behind it -/
def shT (sp : List cS) : Bool := sp.tail.all fun x => match x with
  | .inl _ => false
  | .inr _ => true
theorem shT_at {sp : List cS} (h : shT sp = true) {j : Nat} {x : cS} (e : sp[j + 1]? = some x) : ∃ q, x = .inr q := by
  have e2 : sp.tail[j]? = some x := by rw [List.getElem?_tail]; exact e
  have := List.all_eq_true.mp h x (List.mem_of_getElem? e2)
  cases x with
  | inl q => cases this
  | inr q => exact ⟨q, rfl⟩
theorem okC_F {a k : Nat} {e : pE} {q : FieldType × Nat} {v : Value} (h : okC a e (.inr q)) : upF e k v = e := by
  unfold okC at h
  by_cases c : q.1 = .long
  · simp only [if_pos c] at h
    obtain ⟨f, rfl⟩ := h
    rfl
  · simp only [if_neg c] at h
    obtain ⟨f, rfl, -⟩ := h
    rfl
theorem sh_wF {S : pS} {a b : Nat} {sp : List cS} (h : Sh S a sp) (ht : shT sp = true) (hn : a ≠ b) (k : Nat) (v : Value) : Sh (wF S b k v) a sp := by
  refine ⟨h.1, fun j x e => ?_⟩
  by_cases c : a + j = b
  · subst c
    rw [wF_at]
    cases j with
    | zero => exact absurd rfl hn
    | succ j =>
      obtain ⟨q, rfl⟩ := shT_at ht e
      have := h.2 (j + 1) _ e
      rw [okC_F this]; exact this
  · rw [wF_ne _ _ _ c]; exact h.2 j x e
theorem sh_kV {S : pS} {a c k : Nat} {sp : List cS} {fs : List (Nat ⊕ Bool)} (h : Sh S a sp) (ht : shT sp = true) (e : sp[0]? = some (.inl (c, fs))) (v : Value) (hv : ∀ y, fs[k]? = some y → okF a v y) : Sh (wF S a k v) a sp := by
  refine ⟨h.1, fun j x ej => ?_⟩
  cases j with
  | zero =>
    obtain ⟨f, e1, e2, e3⟩ := sh_obj h e
    rw [e] at ej
    cases ej
    rw [Nat.add_zero, wF_at, e2]
    refine ⟨pu f k v, rfl, fun k' y hy => ?_⟩
    by_cases ck : k' = k
    · subst ck; rw [pu_at]; exact hv y hy
    · rw [pu_ne _ _ _ ck]; exact e3 k' y hy
  | succ j => rw [wF_ne _ _ _ (show a + (j + 1) ≠ a by omega)]; exact h.2 (j + 1) x ej
theorem sh_kI {S : pS} {a b c k : Nat} {sp : List cS} {fs : List (Nat ⊕ Bool)} (h : Sh S a sp) (_hb : Sh S b sp) (ht : shT sp = true) (e : sp[0]? = some (.inl (c, fs))) (ek : fs[k]? = some (.inr false)) (v : Int32) : Sh (wF S b k (.int v)) a sp := by
  by_cases ab : a = b
  · subst ab
    exact sh_kV h ht e _ (fun y hy => by rw [ek] at hy; cases hy; exact ⟨v, rfl⟩)
  · exact sh_wF h ht ab _ _
theorem sh_kJ {S : pS} {a b c k : Nat} {sp : List cS} {fs : List (Nat ⊕ Bool)} (h : Sh S a sp) (_hb : Sh S b sp) (ht : shT sp = true) (e : sp[0]? = some (.inl (c, fs))) (ek : fs[k]? = some (.inr true)) (v : Int64) : Sh (wF S b k (.long v)) a sp := by
  by_cases ab : a = b
  · subst ab
    exact sh_kV h ht e _ (fun y hy => by rw [ek] at hy; cases hy; exact ⟨v, rfl⟩)
  · exact sh_wF h ht ab _ _
/-- written alone: the cells outside L are as they were, none is new -/
def Md (S S' : pS) (L : List Nat) : Prop := S'.1 = S.1 ∧ ∀ q, q ∉ L → S'.2 q = S.2 q
theorem Md_refl (S : pS) (L : List Nat) : Md S S L := ⟨rfl, fun _ _ => rfl⟩
theorem Md_trans {S S1 S2 : pS} {L : List Nat} (h : Md S S1 L) (h2 : Md S1 S2 L) : Md S S2 L := ⟨h2.1.trans h.1, fun q hq => (h2.2 q hq).trans (h.2 q hq)⟩
theorem Md_sub {S S1 : pS} {L L' : List Nat} (h : Md S S1 L) (hs : ∀ q, q ∈ L → q ∈ L') : Md S S1 L' := ⟨h.1, fun q hq => h.2 q (fun z => hq (hs q z))⟩
theorem Md_I {S S1 : pS} {L : List Nat} (h : Md S S1 L) {q : Nat} (hq : q ∈ L) (i : Nat) (v : Int32) : Md S (wI S1 q i v) L := ⟨h.1, fun j hj => (wI_ne _ _ _ (fun e => hj (by rw [e]; exact hq))).trans (h.2 j hj)⟩
theorem Md_J {S S1 : pS} {L : List Nat} (h : Md S S1 L) {q : Nat} (hq : q ∈ L) (i : Nat) (v : Int64) : Md S (wJ S1 q i v) L := ⟨h.1, fun j hj => (wJ_ne _ _ _ (fun e => hj (by rw [e]; exact hq))).trans (h.2 j hj)⟩
theorem Md_F {S S1 : pS} {L : List Nat} (h : Md S S1 L) {q : Nat} (hq : q ∈ L) (k : Nat) (v : Value) : Md S (wF S1 q k v) L := ⟨h.1, fun j hj => (wF_ne _ _ _ (fun e => hj (by rw [e]; exact hq))).trans (h.2 j hj)⟩
theorem Md_sh {S S1 : pS} {L : List Nat} {a : Nat} {sp : List cS} (h : Md S S1 L) (hs : Sh S a sp) (hd : ∀ q, q ∈ L → q < a ∨ a + sp.length ≤ q) : Sh S1 a sp :=
  sh_fr hs (Nat.le_of_eq h.1.symm) (fun q h1 h2 => h.2 q (fun z => by have := hd q z; omega))
/-- the literals that stand as numbers of places -/
theorem li_0 : (0 : Int32) = nI 0 := rfl
theorem li_1 : (1 : Int32) = nI 1 := rfl
theorem li_2 : (2 : Int32) = nI 2 := rfl
theorem li_3 : (3 : Int32) = nI 3 := rfl
theorem li_4 : (4 : Int32) = nI 4 := rfl
theorem li_5 : (5 : Int32) = nI 5 := rfl
theorem li_7 : (7 : Int32) = nI 7 := rfl
theorem li_8 : (8 : Int32) = nI 8 := rfl
theorem li_10 : (10 : Int32) = nI 10 := rfl
theorem li_12 : (12 : Int32) = nI 12 := rfl
theorem li_60 : (60 : Int32) = nI 60 := rfl
theorem li_61 : (61 : Int32) = nI 61 := rfl
theorem li_62 : (62 : Int32) = nI 62 := rfl
theorem li_123 : (123 : Int32) = nI 123 := rfl
theorem li_184 : (184 : Int32) = nI 184 := rfl
theorem li_245 : (245 : Int32) = nI 245 := rfl
theorem li_300 : (300 : Int32) = nI 300 := rfl
theorem li_306 : (306 : Int32) = nI 306 := rfl
theorem li_400 : (400 : Int32) = nI 400 := rfl
theorem li_700 : (700 : Int32) = nI 700 := rfl
theorem li_732 : (732 : Int32) = nI 732 := rfl
theorem li_916 : (916 : Int32) = nI 916 := rfl
theorem li_977 : (977 : Int32) = nI 977 := rfl
theorem li_1709 : (1709 : Int32) = nI 1709 := rfl
theorem li_11963 : (11963 : Int32) = nI 11963 := rfl
theorem li_40 : (40 : Int32) = nI 40 := rfl
theorem li_41 : (41 : Int32) = nI 41 := rfl
theorem li_80 : (80 : Int32) = nI 80 := rfl
theorem li_301 : (301 : Int32) = nI 301 := rfl
theorem li_602 : (602 : Int32) = nI 602 := rfl

/-! class 0: Chain -/
def sp0 : List cS := [.inl (0, [.inl 1, .inr false]), .inr (.int, 3)]
theorem s0_oF {S : pS} {a : Nat} {β : Type} {k : Option β} (h : Sh S a sp0) : ((oF S a 0).bind fun _ => k) = k := sh_oF h rfl
theorem s0_g0 {S : pS} {a : Nat} (h : Sh S a sp0) : oGA S a 0 0 = some (a + 1) := sh_GA h rfl rfl
theorem s0_r0 {S : pS} {a : Nat} (h : Sh S a sp0) {i : Nat} (hi : i < 3) : oAI S (a + 1) .int (nI i) = some (cI (S.2 (a + 1)) i) := sh_AI h rfl (by decide) hi (Nat.le_of_ble_eq_true rfl)
theorem s0_w0 {S : pS} {a : Nat} (h : Sh S a sp0) {i : Nat} (hi : i < 3) (v : Int32) : oSI S (a + 1) .int (nI i) v = some (wI S (a + 1) i v) := sh_SI h rfl (by decide) hi (Nat.le_of_ble_eq_true rfl)
theorem s0_v0 {S : pS} {a : Nat} (h : Sh S a sp0) (i : Nat) (v : Int32) : cI ((wI S (a + 1) i v).2 (a + 1)) = pu (cI (S.2 (a + 1))) i v := sh_vI h rfl (by decide) (vnar_int v) i
theorem s0_g1 {S : pS} {a : Nat} (h : Sh S a sp0) : oGI S a 0 1 = some (fI (S.2 a) 1) := sh_GI h rfl rfl
theorem s0_p1 {S : pS} {a : Nat} (h : Sh S a sp0) (v : Int32) : oPI S a 0 1 v = some (wF S a 1 (.int v)) := sh_P h rfl _
theorem s0_q1 {S : pS} {a : Nat} (h : Sh S a sp0) {v : Int32} (hv : v = 0 ∨ v = 1) : oPZ S a 0 1 v = some (wF S a 1 (.int v)) := by unfold oPZ; rw [if_pos hv]; exact sh_P h rfl _
theorem s0_k1 {S : pS} {a b : Nat} (h : Sh S a sp0) (hb : Sh S b sp0) (v : Int32) : Sh (wF S b 1 (.int v)) a sp0 := sh_kI h hb (by decide) rfl rfl v
theorem s0_v1 {S : pS} {a : Nat} (h : Sh S a sp0) (v : Int32) : fI ((wF S a 1 (.int v)).2 a) 1 = v := sh_vFI h rfl v
/-! class 1: Conditions -/
def sp1 : List cS := [.inl (1, [.inl 1, .inl 2, .inl 3, .inl 4, .inl 5, .inr false]), .inr (.int, 5), .inr (.boolean, 5), .inr (.int, 5), .inr (.char, 50), .inr (.int, 5)]
theorem s1_oF {S : pS} {a : Nat} {β : Type} {k : Option β} (h : Sh S a sp1) : ((oF S a 1).bind fun _ => k) = k := sh_oF h rfl
theorem s1_g0 {S : pS} {a : Nat} (h : Sh S a sp1) : oGA S a 1 0 = some (a + 1) := sh_GA h rfl rfl
theorem s1_r0 {S : pS} {a : Nat} (h : Sh S a sp1) {i : Nat} (hi : i < 5) : oAI S (a + 1) .int (nI i) = some (cI (S.2 (a + 1)) i) := sh_AI h rfl (by decide) hi (Nat.le_of_ble_eq_true rfl)
theorem s1_w0 {S : pS} {a : Nat} (h : Sh S a sp1) {i : Nat} (hi : i < 5) (v : Int32) : oSI S (a + 1) .int (nI i) v = some (wI S (a + 1) i v) := sh_SI h rfl (by decide) hi (Nat.le_of_ble_eq_true rfl)
theorem s1_v0 {S : pS} {a : Nat} (h : Sh S a sp1) (i : Nat) (v : Int32) : cI ((wI S (a + 1) i v).2 (a + 1)) = pu (cI (S.2 (a + 1))) i v := sh_vI h rfl (by decide) (vnar_int v) i
theorem s1_g1 {S : pS} {a : Nat} (h : Sh S a sp1) : oGA S a 1 1 = some (a + 2) := sh_GA h rfl rfl
theorem s1_r1 {S : pS} {a : Nat} (h : Sh S a sp1) {i : Nat} (hi : i < 5) : oAI S (a + 2) .boolean (nI i) = some (cI (S.2 (a + 2)) i) := sh_AI h rfl (by decide) hi (Nat.le_of_ble_eq_true rfl)
theorem s1_w1 {S : pS} {a : Nat} (h : Sh S a sp1) {i : Nat} (hi : i < 5) (v : Int32) : oSI S (a + 2) .boolean (nI i) v = some (wI S (a + 2) i v) := sh_SI h rfl (by decide) hi (Nat.le_of_ble_eq_true rfl)
theorem s1_v1 {S : pS} {a : Nat} (h : Sh S a sp1) (i : Nat) {v : Int32} (hv : vp_nar .boolean v = v) : cI ((wI S (a + 2) i v).2 (a + 2)) = pu (cI (S.2 (a + 2))) i v := sh_vI h rfl (by decide) hv i
theorem s1_g2 {S : pS} {a : Nat} (h : Sh S a sp1) : oGA S a 1 2 = some (a + 3) := sh_GA h rfl rfl
theorem s1_r2 {S : pS} {a : Nat} (h : Sh S a sp1) {i : Nat} (hi : i < 5) : oAI S (a + 3) .int (nI i) = some (cI (S.2 (a + 3)) i) := sh_AI h rfl (by decide) hi (Nat.le_of_ble_eq_true rfl)
theorem s1_w2 {S : pS} {a : Nat} (h : Sh S a sp1) {i : Nat} (hi : i < 5) (v : Int32) : oSI S (a + 3) .int (nI i) v = some (wI S (a + 3) i v) := sh_SI h rfl (by decide) hi (Nat.le_of_ble_eq_true rfl)
theorem s1_v2 {S : pS} {a : Nat} (h : Sh S a sp1) (i : Nat) (v : Int32) : cI ((wI S (a + 3) i v).2 (a + 3)) = pu (cI (S.2 (a + 3))) i v := sh_vI h rfl (by decide) (vnar_int v) i
theorem s1_g3 {S : pS} {a : Nat} (h : Sh S a sp1) : oGA S a 1 3 = some (a + 4) := sh_GA h rfl rfl
theorem s1_r3 {S : pS} {a : Nat} (h : Sh S a sp1) {i : Nat} (hi : i < 50) : oAI S (a + 4) .char (nI i) = some (cI (S.2 (a + 4)) i) := sh_AI h rfl (by decide) hi (Nat.le_of_ble_eq_true rfl)
theorem s1_w3 {S : pS} {a : Nat} (h : Sh S a sp1) {i : Nat} (hi : i < 50) (v : Int32) : oSI S (a + 4) .char (nI i) v = some (wI S (a + 4) i v) := sh_SI h rfl (by decide) hi (Nat.le_of_ble_eq_true rfl)
theorem s1_v3 {S : pS} {a : Nat} (h : Sh S a sp1) (i : Nat) {v : Int32} (hv : vp_nar .char v = v) : cI ((wI S (a + 4) i v).2 (a + 4)) = pu (cI (S.2 (a + 4))) i v := sh_vI h rfl (by decide) hv i
theorem s1_g4 {S : pS} {a : Nat} (h : Sh S a sp1) : oGA S a 1 4 = some (a + 5) := sh_GA h rfl rfl
theorem s1_r4 {S : pS} {a : Nat} (h : Sh S a sp1) {i : Nat} (hi : i < 5) : oAI S (a + 5) .int (nI i) = some (cI (S.2 (a + 5)) i) := sh_AI h rfl (by decide) hi (Nat.le_of_ble_eq_true rfl)
theorem s1_w4 {S : pS} {a : Nat} (h : Sh S a sp1) {i : Nat} (hi : i < 5) (v : Int32) : oSI S (a + 5) .int (nI i) v = some (wI S (a + 5) i v) := sh_SI h rfl (by decide) hi (Nat.le_of_ble_eq_true rfl)
theorem s1_v4 {S : pS} {a : Nat} (h : Sh S a sp1) (i : Nat) (v : Int32) : cI ((wI S (a + 5) i v).2 (a + 5)) = pu (cI (S.2 (a + 5))) i v := sh_vI h rfl (by decide) (vnar_int v) i
theorem s1_g5 {S : pS} {a : Nat} (h : Sh S a sp1) : oGI S a 1 5 = some (fI (S.2 a) 5) := sh_GI h rfl rfl
theorem s1_p5 {S : pS} {a : Nat} (h : Sh S a sp1) (v : Int32) : oPI S a 1 5 v = some (wF S a 5 (.int v)) := sh_P h rfl _
theorem s1_q5 {S : pS} {a : Nat} (h : Sh S a sp1) {v : Int32} (hv : v = 0 ∨ v = 1) : oPZ S a 1 5 v = some (wF S a 5 (.int v)) := by unfold oPZ; rw [if_pos hv]; exact sh_P h rfl _
theorem s1_k5 {S : pS} {a b : Nat} (h : Sh S a sp1) (hb : Sh S b sp1) (v : Int32) : Sh (wF S b 5 (.int v)) a sp1 := sh_kI h hb (by decide) rfl rfl v
theorem s1_v5 {S : pS} {a : Nat} (h : Sh S a sp1) (v : Int32) : fI ((wF S a 5 (.int v)).2 a) 5 = v := sh_vFI h rfl v
/-! class 2: Entries -/
def sp2 : List cS := [.inl (2, [.inl 1, .inl 2, .inl 3, .inl 4, .inl 5, .inl 6, .inl 7, .inl 8, .inr false]), .inr (.int, 40), .inr (.int, 40), .inr (.char, 400), .inr (.int, 40), .inr (.int, 40), .inr (.int, 40), .inr (.boolean, 40), .inr (.int, 40)]
theorem s2_oF {S : pS} {a : Nat} {β : Type} {k : Option β} (h : Sh S a sp2) : ((oF S a 2).bind fun _ => k) = k := sh_oF h rfl
theorem s2_g0 {S : pS} {a : Nat} (h : Sh S a sp2) : oGA S a 2 0 = some (a + 1) := sh_GA h rfl rfl
theorem s2_r0 {S : pS} {a : Nat} (h : Sh S a sp2) {i : Nat} (hi : i < 40) : oAI S (a + 1) .int (nI i) = some (cI (S.2 (a + 1)) i) := sh_AI h rfl (by decide) hi (Nat.le_of_ble_eq_true rfl)
theorem s2_w0 {S : pS} {a : Nat} (h : Sh S a sp2) {i : Nat} (hi : i < 40) (v : Int32) : oSI S (a + 1) .int (nI i) v = some (wI S (a + 1) i v) := sh_SI h rfl (by decide) hi (Nat.le_of_ble_eq_true rfl)
theorem s2_v0 {S : pS} {a : Nat} (h : Sh S a sp2) (i : Nat) (v : Int32) : cI ((wI S (a + 1) i v).2 (a + 1)) = pu (cI (S.2 (a + 1))) i v := sh_vI h rfl (by decide) (vnar_int v) i
theorem s2_g1 {S : pS} {a : Nat} (h : Sh S a sp2) : oGA S a 2 1 = some (a + 2) := sh_GA h rfl rfl
theorem s2_r1 {S : pS} {a : Nat} (h : Sh S a sp2) {i : Nat} (hi : i < 40) : oAI S (a + 2) .int (nI i) = some (cI (S.2 (a + 2)) i) := sh_AI h rfl (by decide) hi (Nat.le_of_ble_eq_true rfl)
theorem s2_w1 {S : pS} {a : Nat} (h : Sh S a sp2) {i : Nat} (hi : i < 40) (v : Int32) : oSI S (a + 2) .int (nI i) v = some (wI S (a + 2) i v) := sh_SI h rfl (by decide) hi (Nat.le_of_ble_eq_true rfl)
theorem s2_v1 {S : pS} {a : Nat} (h : Sh S a sp2) (i : Nat) (v : Int32) : cI ((wI S (a + 2) i v).2 (a + 2)) = pu (cI (S.2 (a + 2))) i v := sh_vI h rfl (by decide) (vnar_int v) i
theorem s2_g2 {S : pS} {a : Nat} (h : Sh S a sp2) : oGA S a 2 2 = some (a + 3) := sh_GA h rfl rfl
theorem s2_r2 {S : pS} {a : Nat} (h : Sh S a sp2) {i : Nat} (hi : i < 400) : oAI S (a + 3) .char (nI i) = some (cI (S.2 (a + 3)) i) := sh_AI h rfl (by decide) hi (Nat.le_of_ble_eq_true rfl)
theorem s2_w2 {S : pS} {a : Nat} (h : Sh S a sp2) {i : Nat} (hi : i < 400) (v : Int32) : oSI S (a + 3) .char (nI i) v = some (wI S (a + 3) i v) := sh_SI h rfl (by decide) hi (Nat.le_of_ble_eq_true rfl)
theorem s2_v2 {S : pS} {a : Nat} (h : Sh S a sp2) (i : Nat) {v : Int32} (hv : vp_nar .char v = v) : cI ((wI S (a + 3) i v).2 (a + 3)) = pu (cI (S.2 (a + 3))) i v := sh_vI h rfl (by decide) hv i
theorem s2_g3 {S : pS} {a : Nat} (h : Sh S a sp2) : oGA S a 2 3 = some (a + 4) := sh_GA h rfl rfl
theorem s2_r3 {S : pS} {a : Nat} (h : Sh S a sp2) {i : Nat} (hi : i < 40) : oAI S (a + 4) .int (nI i) = some (cI (S.2 (a + 4)) i) := sh_AI h rfl (by decide) hi (Nat.le_of_ble_eq_true rfl)
theorem s2_w3 {S : pS} {a : Nat} (h : Sh S a sp2) {i : Nat} (hi : i < 40) (v : Int32) : oSI S (a + 4) .int (nI i) v = some (wI S (a + 4) i v) := sh_SI h rfl (by decide) hi (Nat.le_of_ble_eq_true rfl)
theorem s2_v3 {S : pS} {a : Nat} (h : Sh S a sp2) (i : Nat) (v : Int32) : cI ((wI S (a + 4) i v).2 (a + 4)) = pu (cI (S.2 (a + 4))) i v := sh_vI h rfl (by decide) (vnar_int v) i
theorem s2_g4 {S : pS} {a : Nat} (h : Sh S a sp2) : oGA S a 2 4 = some (a + 5) := sh_GA h rfl rfl
theorem s2_r4 {S : pS} {a : Nat} (h : Sh S a sp2) {i : Nat} (hi : i < 40) : oAI S (a + 5) .int (nI i) = some (cI (S.2 (a + 5)) i) := sh_AI h rfl (by decide) hi (Nat.le_of_ble_eq_true rfl)
theorem s2_w4 {S : pS} {a : Nat} (h : Sh S a sp2) {i : Nat} (hi : i < 40) (v : Int32) : oSI S (a + 5) .int (nI i) v = some (wI S (a + 5) i v) := sh_SI h rfl (by decide) hi (Nat.le_of_ble_eq_true rfl)
theorem s2_v4 {S : pS} {a : Nat} (h : Sh S a sp2) (i : Nat) (v : Int32) : cI ((wI S (a + 5) i v).2 (a + 5)) = pu (cI (S.2 (a + 5))) i v := sh_vI h rfl (by decide) (vnar_int v) i
theorem s2_g5 {S : pS} {a : Nat} (h : Sh S a sp2) : oGA S a 2 5 = some (a + 6) := sh_GA h rfl rfl
theorem s2_r5 {S : pS} {a : Nat} (h : Sh S a sp2) {i : Nat} (hi : i < 40) : oAI S (a + 6) .int (nI i) = some (cI (S.2 (a + 6)) i) := sh_AI h rfl (by decide) hi (Nat.le_of_ble_eq_true rfl)
theorem s2_w5 {S : pS} {a : Nat} (h : Sh S a sp2) {i : Nat} (hi : i < 40) (v : Int32) : oSI S (a + 6) .int (nI i) v = some (wI S (a + 6) i v) := sh_SI h rfl (by decide) hi (Nat.le_of_ble_eq_true rfl)
theorem s2_v5 {S : pS} {a : Nat} (h : Sh S a sp2) (i : Nat) (v : Int32) : cI ((wI S (a + 6) i v).2 (a + 6)) = pu (cI (S.2 (a + 6))) i v := sh_vI h rfl (by decide) (vnar_int v) i
theorem s2_g6 {S : pS} {a : Nat} (h : Sh S a sp2) : oGA S a 2 6 = some (a + 7) := sh_GA h rfl rfl
theorem s2_r6 {S : pS} {a : Nat} (h : Sh S a sp2) {i : Nat} (hi : i < 40) : oAI S (a + 7) .boolean (nI i) = some (cI (S.2 (a + 7)) i) := sh_AI h rfl (by decide) hi (Nat.le_of_ble_eq_true rfl)
theorem s2_w6 {S : pS} {a : Nat} (h : Sh S a sp2) {i : Nat} (hi : i < 40) (v : Int32) : oSI S (a + 7) .boolean (nI i) v = some (wI S (a + 7) i v) := sh_SI h rfl (by decide) hi (Nat.le_of_ble_eq_true rfl)
theorem s2_v6 {S : pS} {a : Nat} (h : Sh S a sp2) (i : Nat) {v : Int32} (hv : vp_nar .boolean v = v) : cI ((wI S (a + 7) i v).2 (a + 7)) = pu (cI (S.2 (a + 7))) i v := sh_vI h rfl (by decide) hv i
theorem s2_g7 {S : pS} {a : Nat} (h : Sh S a sp2) : oGA S a 2 7 = some (a + 8) := sh_GA h rfl rfl
theorem s2_r7 {S : pS} {a : Nat} (h : Sh S a sp2) {i : Nat} (hi : i < 40) : oAI S (a + 8) .int (nI i) = some (cI (S.2 (a + 8)) i) := sh_AI h rfl (by decide) hi (Nat.le_of_ble_eq_true rfl)
theorem s2_w7 {S : pS} {a : Nat} (h : Sh S a sp2) {i : Nat} (hi : i < 40) (v : Int32) : oSI S (a + 8) .int (nI i) v = some (wI S (a + 8) i v) := sh_SI h rfl (by decide) hi (Nat.le_of_ble_eq_true rfl)
theorem s2_v7 {S : pS} {a : Nat} (h : Sh S a sp2) (i : Nat) (v : Int32) : cI ((wI S (a + 8) i v).2 (a + 8)) = pu (cI (S.2 (a + 8))) i v := sh_vI h rfl (by decide) (vnar_int v) i
theorem s2_g8 {S : pS} {a : Nat} (h : Sh S a sp2) : oGI S a 2 8 = some (fI (S.2 a) 8) := sh_GI h rfl rfl
theorem s2_p8 {S : pS} {a : Nat} (h : Sh S a sp2) (v : Int32) : oPI S a 2 8 v = some (wF S a 8 (.int v)) := sh_P h rfl _
theorem s2_q8 {S : pS} {a : Nat} (h : Sh S a sp2) {v : Int32} (hv : v = 0 ∨ v = 1) : oPZ S a 2 8 v = some (wF S a 8 (.int v)) := by unfold oPZ; rw [if_pos hv]; exact sh_P h rfl _
theorem s2_k8 {S : pS} {a b : Nat} (h : Sh S a sp2) (hb : Sh S b sp2) (v : Int32) : Sh (wF S b 8 (.int v)) a sp2 := sh_kI h hb (by decide) rfl rfl v
theorem s2_v8 {S : pS} {a : Nat} (h : Sh S a sp2) (v : Int32) : fI ((wF S a 8 (.int v)).2 a) 8 = v := sh_vFI h rfl v
/-! class 4: Hoists -/
def sp4 : List cS := [.inl (4, [.inl 1, .inr false]), .inr (.int, 4)]
theorem s4_oF {S : pS} {a : Nat} {β : Type} {k : Option β} (h : Sh S a sp4) : ((oF S a 4).bind fun _ => k) = k := sh_oF h rfl
theorem s4_g0 {S : pS} {a : Nat} (h : Sh S a sp4) : oGA S a 4 0 = some (a + 1) := sh_GA h rfl rfl
theorem s4_r0 {S : pS} {a : Nat} (h : Sh S a sp4) {i : Nat} (hi : i < 4) : oAI S (a + 1) .int (nI i) = some (cI (S.2 (a + 1)) i) := sh_AI h rfl (by decide) hi (Nat.le_of_ble_eq_true rfl)
theorem s4_w0 {S : pS} {a : Nat} (h : Sh S a sp4) {i : Nat} (hi : i < 4) (v : Int32) : oSI S (a + 1) .int (nI i) v = some (wI S (a + 1) i v) := sh_SI h rfl (by decide) hi (Nat.le_of_ble_eq_true rfl)
theorem s4_v0 {S : pS} {a : Nat} (h : Sh S a sp4) (i : Nat) (v : Int32) : cI ((wI S (a + 1) i v).2 (a + 1)) = pu (cI (S.2 (a + 1))) i v := sh_vI h rfl (by decide) (vnar_int v) i
theorem s4_g1 {S : pS} {a : Nat} (h : Sh S a sp4) : oGI S a 4 1 = some (fI (S.2 a) 1) := sh_GI h rfl rfl
theorem s4_p1 {S : pS} {a : Nat} (h : Sh S a sp4) (v : Int32) : oPI S a 4 1 v = some (wF S a 1 (.int v)) := sh_P h rfl _
theorem s4_q1 {S : pS} {a : Nat} (h : Sh S a sp4) {v : Int32} (hv : v = 0 ∨ v = 1) : oPZ S a 4 1 v = some (wF S a 1 (.int v)) := by unfold oPZ; rw [if_pos hv]; exact sh_P h rfl _
theorem s4_k1 {S : pS} {a b : Nat} (h : Sh S a sp4) (hb : Sh S b sp4) (v : Int32) : Sh (wF S b 1 (.int v)) a sp4 := sh_kI h hb (by decide) rfl rfl v
theorem s4_v1 {S : pS} {a : Nat} (h : Sh S a sp4) (v : Int32) : fI ((wF S a 1 (.int v)).2 a) 1 = v := sh_vFI h rfl v
/-! class 5: Lines -/
def sp5 : List cS := [.inl (5, [.inl 1, .inl 2, .inl 3, .inl 4, .inl 5, .inr false]), .inr (.int, 301), .inr (.int, 301), .inr (.int, 301), .inr (.int, 301), .inr (.int, 301)]
theorem s5_oF {S : pS} {a : Nat} {β : Type} {k : Option β} (h : Sh S a sp5) : ((oF S a 5).bind fun _ => k) = k := sh_oF h rfl
theorem s5_g0 {S : pS} {a : Nat} (h : Sh S a sp5) : oGA S a 5 0 = some (a + 1) := sh_GA h rfl rfl
theorem s5_r0 {S : pS} {a : Nat} (h : Sh S a sp5) {i : Nat} (hi : i < 301) : oAI S (a + 1) .int (nI i) = some (cI (S.2 (a + 1)) i) := sh_AI h rfl (by decide) hi (Nat.le_of_ble_eq_true rfl)
theorem s5_w0 {S : pS} {a : Nat} (h : Sh S a sp5) {i : Nat} (hi : i < 301) (v : Int32) : oSI S (a + 1) .int (nI i) v = some (wI S (a + 1) i v) := sh_SI h rfl (by decide) hi (Nat.le_of_ble_eq_true rfl)
theorem s5_v0 {S : pS} {a : Nat} (h : Sh S a sp5) (i : Nat) (v : Int32) : cI ((wI S (a + 1) i v).2 (a + 1)) = pu (cI (S.2 (a + 1))) i v := sh_vI h rfl (by decide) (vnar_int v) i
theorem s5_g1 {S : pS} {a : Nat} (h : Sh S a sp5) : oGA S a 5 1 = some (a + 2) := sh_GA h rfl rfl
theorem s5_r1 {S : pS} {a : Nat} (h : Sh S a sp5) {i : Nat} (hi : i < 301) : oAI S (a + 2) .int (nI i) = some (cI (S.2 (a + 2)) i) := sh_AI h rfl (by decide) hi (Nat.le_of_ble_eq_true rfl)
theorem s5_w1 {S : pS} {a : Nat} (h : Sh S a sp5) {i : Nat} (hi : i < 301) (v : Int32) : oSI S (a + 2) .int (nI i) v = some (wI S (a + 2) i v) := sh_SI h rfl (by decide) hi (Nat.le_of_ble_eq_true rfl)
theorem s5_v1 {S : pS} {a : Nat} (h : Sh S a sp5) (i : Nat) (v : Int32) : cI ((wI S (a + 2) i v).2 (a + 2)) = pu (cI (S.2 (a + 2))) i v := sh_vI h rfl (by decide) (vnar_int v) i
theorem s5_g2 {S : pS} {a : Nat} (h : Sh S a sp5) : oGA S a 5 2 = some (a + 3) := sh_GA h rfl rfl
theorem s5_r2 {S : pS} {a : Nat} (h : Sh S a sp5) {i : Nat} (hi : i < 301) : oAI S (a + 3) .int (nI i) = some (cI (S.2 (a + 3)) i) := sh_AI h rfl (by decide) hi (Nat.le_of_ble_eq_true rfl)
theorem s5_w2 {S : pS} {a : Nat} (h : Sh S a sp5) {i : Nat} (hi : i < 301) (v : Int32) : oSI S (a + 3) .int (nI i) v = some (wI S (a + 3) i v) := sh_SI h rfl (by decide) hi (Nat.le_of_ble_eq_true rfl)
theorem s5_v2 {S : pS} {a : Nat} (h : Sh S a sp5) (i : Nat) (v : Int32) : cI ((wI S (a + 3) i v).2 (a + 3)) = pu (cI (S.2 (a + 3))) i v := sh_vI h rfl (by decide) (vnar_int v) i
theorem s5_g3 {S : pS} {a : Nat} (h : Sh S a sp5) : oGA S a 5 3 = some (a + 4) := sh_GA h rfl rfl
theorem s5_r3 {S : pS} {a : Nat} (h : Sh S a sp5) {i : Nat} (hi : i < 301) : oAI S (a + 4) .int (nI i) = some (cI (S.2 (a + 4)) i) := sh_AI h rfl (by decide) hi (Nat.le_of_ble_eq_true rfl)
theorem s5_w3 {S : pS} {a : Nat} (h : Sh S a sp5) {i : Nat} (hi : i < 301) (v : Int32) : oSI S (a + 4) .int (nI i) v = some (wI S (a + 4) i v) := sh_SI h rfl (by decide) hi (Nat.le_of_ble_eq_true rfl)
theorem s5_v3 {S : pS} {a : Nat} (h : Sh S a sp5) (i : Nat) (v : Int32) : cI ((wI S (a + 4) i v).2 (a + 4)) = pu (cI (S.2 (a + 4))) i v := sh_vI h rfl (by decide) (vnar_int v) i
theorem s5_g4 {S : pS} {a : Nat} (h : Sh S a sp5) : oGA S a 5 4 = some (a + 5) := sh_GA h rfl rfl
theorem s5_r4 {S : pS} {a : Nat} (h : Sh S a sp5) {i : Nat} (hi : i < 301) : oAI S (a + 5) .int (nI i) = some (cI (S.2 (a + 5)) i) := sh_AI h rfl (by decide) hi (Nat.le_of_ble_eq_true rfl)
theorem s5_w4 {S : pS} {a : Nat} (h : Sh S a sp5) {i : Nat} (hi : i < 301) (v : Int32) : oSI S (a + 5) .int (nI i) v = some (wI S (a + 5) i v) := sh_SI h rfl (by decide) hi (Nat.le_of_ble_eq_true rfl)
theorem s5_v4 {S : pS} {a : Nat} (h : Sh S a sp5) (i : Nat) (v : Int32) : cI ((wI S (a + 5) i v).2 (a + 5)) = pu (cI (S.2 (a + 5))) i v := sh_vI h rfl (by decide) (vnar_int v) i
theorem s5_g5 {S : pS} {a : Nat} (h : Sh S a sp5) : oGI S a 5 5 = some (fI (S.2 a) 5) := sh_GI h rfl rfl
theorem s5_p5 {S : pS} {a : Nat} (h : Sh S a sp5) (v : Int32) : oPI S a 5 5 v = some (wF S a 5 (.int v)) := sh_P h rfl _
theorem s5_q5 {S : pS} {a : Nat} (h : Sh S a sp5) {v : Int32} (hv : v = 0 ∨ v = 1) : oPZ S a 5 5 v = some (wF S a 5 (.int v)) := by unfold oPZ; rw [if_pos hv]; exact sh_P h rfl _
theorem s5_k5 {S : pS} {a b : Nat} (h : Sh S a sp5) (hb : Sh S b sp5) (v : Int32) : Sh (wF S b 5 (.int v)) a sp5 := sh_kI h hb (by decide) rfl rfl v
theorem s5_v5 {S : pS} {a : Nat} (h : Sh S a sp5) (v : Int32) : fI ((wF S a 5 (.int v)).2 a) 5 = v := sh_vFI h rfl v
/-! class 6: Survey -/
def sp6 : List cS := [.inl (6, [.inl 1, .inl 2, .inl 3, .inr false, .inl 4, .inl 5, .inl 6, .inl 7]), .inr (.int, 61), .inr (.int, 61), .inr (.int, 61), .inr (.int, 61), .inr (.int, 61), .inr (.int, 61), .inr (.long, 61)]
theorem s6_oF {S : pS} {a : Nat} {β : Type} {k : Option β} (h : Sh S a sp6) : ((oF S a 6).bind fun _ => k) = k := sh_oF h rfl
theorem s6_g0 {S : pS} {a : Nat} (h : Sh S a sp6) : oGA S a 6 0 = some (a + 1) := sh_GA h rfl rfl
theorem s6_r0 {S : pS} {a : Nat} (h : Sh S a sp6) {i : Nat} (hi : i < 61) : oAI S (a + 1) .int (nI i) = some (cI (S.2 (a + 1)) i) := sh_AI h rfl (by decide) hi (Nat.le_of_ble_eq_true rfl)
theorem s6_w0 {S : pS} {a : Nat} (h : Sh S a sp6) {i : Nat} (hi : i < 61) (v : Int32) : oSI S (a + 1) .int (nI i) v = some (wI S (a + 1) i v) := sh_SI h rfl (by decide) hi (Nat.le_of_ble_eq_true rfl)
theorem s6_v0 {S : pS} {a : Nat} (h : Sh S a sp6) (i : Nat) (v : Int32) : cI ((wI S (a + 1) i v).2 (a + 1)) = pu (cI (S.2 (a + 1))) i v := sh_vI h rfl (by decide) (vnar_int v) i
theorem s6_g1 {S : pS} {a : Nat} (h : Sh S a sp6) : oGA S a 6 1 = some (a + 2) := sh_GA h rfl rfl
theorem s6_r1 {S : pS} {a : Nat} (h : Sh S a sp6) {i : Nat} (hi : i < 61) : oAI S (a + 2) .int (nI i) = some (cI (S.2 (a + 2)) i) := sh_AI h rfl (by decide) hi (Nat.le_of_ble_eq_true rfl)
theorem s6_w1 {S : pS} {a : Nat} (h : Sh S a sp6) {i : Nat} (hi : i < 61) (v : Int32) : oSI S (a + 2) .int (nI i) v = some (wI S (a + 2) i v) := sh_SI h rfl (by decide) hi (Nat.le_of_ble_eq_true rfl)
theorem s6_v1 {S : pS} {a : Nat} (h : Sh S a sp6) (i : Nat) (v : Int32) : cI ((wI S (a + 2) i v).2 (a + 2)) = pu (cI (S.2 (a + 2))) i v := sh_vI h rfl (by decide) (vnar_int v) i
theorem s6_g2 {S : pS} {a : Nat} (h : Sh S a sp6) : oGA S a 6 2 = some (a + 3) := sh_GA h rfl rfl
theorem s6_r2 {S : pS} {a : Nat} (h : Sh S a sp6) {i : Nat} (hi : i < 61) : oAI S (a + 3) .int (nI i) = some (cI (S.2 (a + 3)) i) := sh_AI h rfl (by decide) hi (Nat.le_of_ble_eq_true rfl)
theorem s6_w2 {S : pS} {a : Nat} (h : Sh S a sp6) {i : Nat} (hi : i < 61) (v : Int32) : oSI S (a + 3) .int (nI i) v = some (wI S (a + 3) i v) := sh_SI h rfl (by decide) hi (Nat.le_of_ble_eq_true rfl)
theorem s6_v2 {S : pS} {a : Nat} (h : Sh S a sp6) (i : Nat) (v : Int32) : cI ((wI S (a + 3) i v).2 (a + 3)) = pu (cI (S.2 (a + 3))) i v := sh_vI h rfl (by decide) (vnar_int v) i
theorem s6_g3 {S : pS} {a : Nat} (h : Sh S a sp6) : oGI S a 6 3 = some (fI (S.2 a) 3) := sh_GI h rfl rfl
theorem s6_p3 {S : pS} {a : Nat} (h : Sh S a sp6) (v : Int32) : oPI S a 6 3 v = some (wF S a 3 (.int v)) := sh_P h rfl _
theorem s6_q3 {S : pS} {a : Nat} (h : Sh S a sp6) {v : Int32} (hv : v = 0 ∨ v = 1) : oPZ S a 6 3 v = some (wF S a 3 (.int v)) := by unfold oPZ; rw [if_pos hv]; exact sh_P h rfl _
theorem s6_k3 {S : pS} {a b : Nat} (h : Sh S a sp6) (hb : Sh S b sp6) (v : Int32) : Sh (wF S b 3 (.int v)) a sp6 := sh_kI h hb (by decide) rfl rfl v
theorem s6_v3 {S : pS} {a : Nat} (h : Sh S a sp6) (v : Int32) : fI ((wF S a 3 (.int v)).2 a) 3 = v := sh_vFI h rfl v
theorem s6_g4 {S : pS} {a : Nat} (h : Sh S a sp6) : oGA S a 6 4 = some (a + 4) := sh_GA h rfl rfl
theorem s6_r4 {S : pS} {a : Nat} (h : Sh S a sp6) {i : Nat} (hi : i < 61) : oAI S (a + 4) .int (nI i) = some (cI (S.2 (a + 4)) i) := sh_AI h rfl (by decide) hi (Nat.le_of_ble_eq_true rfl)
theorem s6_w4 {S : pS} {a : Nat} (h : Sh S a sp6) {i : Nat} (hi : i < 61) (v : Int32) : oSI S (a + 4) .int (nI i) v = some (wI S (a + 4) i v) := sh_SI h rfl (by decide) hi (Nat.le_of_ble_eq_true rfl)
theorem s6_v4 {S : pS} {a : Nat} (h : Sh S a sp6) (i : Nat) (v : Int32) : cI ((wI S (a + 4) i v).2 (a + 4)) = pu (cI (S.2 (a + 4))) i v := sh_vI h rfl (by decide) (vnar_int v) i
theorem s6_g5 {S : pS} {a : Nat} (h : Sh S a sp6) : oGA S a 6 5 = some (a + 5) := sh_GA h rfl rfl
theorem s6_r5 {S : pS} {a : Nat} (h : Sh S a sp6) {i : Nat} (hi : i < 61) : oAI S (a + 5) .int (nI i) = some (cI (S.2 (a + 5)) i) := sh_AI h rfl (by decide) hi (Nat.le_of_ble_eq_true rfl)
theorem s6_w5 {S : pS} {a : Nat} (h : Sh S a sp6) {i : Nat} (hi : i < 61) (v : Int32) : oSI S (a + 5) .int (nI i) v = some (wI S (a + 5) i v) := sh_SI h rfl (by decide) hi (Nat.le_of_ble_eq_true rfl)
theorem s6_v5 {S : pS} {a : Nat} (h : Sh S a sp6) (i : Nat) (v : Int32) : cI ((wI S (a + 5) i v).2 (a + 5)) = pu (cI (S.2 (a + 5))) i v := sh_vI h rfl (by decide) (vnar_int v) i
theorem s6_g6 {S : pS} {a : Nat} (h : Sh S a sp6) : oGA S a 6 6 = some (a + 6) := sh_GA h rfl rfl
theorem s6_r6 {S : pS} {a : Nat} (h : Sh S a sp6) {i : Nat} (hi : i < 61) : oAI S (a + 6) .int (nI i) = some (cI (S.2 (a + 6)) i) := sh_AI h rfl (by decide) hi (Nat.le_of_ble_eq_true rfl)
theorem s6_w6 {S : pS} {a : Nat} (h : Sh S a sp6) {i : Nat} (hi : i < 61) (v : Int32) : oSI S (a + 6) .int (nI i) v = some (wI S (a + 6) i v) := sh_SI h rfl (by decide) hi (Nat.le_of_ble_eq_true rfl)
theorem s6_v6 {S : pS} {a : Nat} (h : Sh S a sp6) (i : Nat) (v : Int32) : cI ((wI S (a + 6) i v).2 (a + 6)) = pu (cI (S.2 (a + 6))) i v := sh_vI h rfl (by decide) (vnar_int v) i
theorem s6_g7 {S : pS} {a : Nat} (h : Sh S a sp6) : oGA S a 6 7 = some (a + 7) := sh_GA h rfl rfl
theorem s6_r7 {S : pS} {a : Nat} (h : Sh S a sp6) {i : Nat} (hi : i < 61) : oAJ S (a + 7) .long (nI i) = some (cJ (S.2 (a + 7)) i) := sh_AJ h rfl hi (Nat.le_of_ble_eq_true rfl)
theorem s6_w7 {S : pS} {a : Nat} (h : Sh S a sp6) {i : Nat} (hi : i < 61) (v : Int64) : oSJ S (a + 7) .long (nI i) v = some (wJ S (a + 7) i v) := sh_SJ h rfl hi (Nat.le_of_ble_eq_true rfl)
theorem s6_v7 {S : pS} {a : Nat} (h : Sh S a sp6) (i : Nat) (v : Int64) : cJ ((wJ S (a + 7) i v).2 (a + 7)) = pu (cJ (S.2 (a + 7))) i v := sh_vJ h rfl i v
/-! class 7: Text -/
def sp7 : List cS := [.inl (7, [.inl 1, .inr false, .inr false]), .inr (.char, 80)]
theorem s7_oF {S : pS} {a : Nat} {β : Type} {k : Option β} (h : Sh S a sp7) : ((oF S a 7).bind fun _ => k) = k := sh_oF h rfl
theorem s7_g0 {S : pS} {a : Nat} (h : Sh S a sp7) : oGA S a 7 0 = some (a + 1) := sh_GA h rfl rfl
theorem s7_r0 {S : pS} {a : Nat} (h : Sh S a sp7) {i : Nat} (hi : i < 80) : oAI S (a + 1) .char (nI i) = some (cI (S.2 (a + 1)) i) := sh_AI h rfl (by decide) hi (Nat.le_of_ble_eq_true rfl)
theorem s7_w0 {S : pS} {a : Nat} (h : Sh S a sp7) {i : Nat} (hi : i < 80) (v : Int32) : oSI S (a + 1) .char (nI i) v = some (wI S (a + 1) i v) := sh_SI h rfl (by decide) hi (Nat.le_of_ble_eq_true rfl)
theorem s7_v0 {S : pS} {a : Nat} (h : Sh S a sp7) (i : Nat) {v : Int32} (hv : vp_nar .char v = v) : cI ((wI S (a + 1) i v).2 (a + 1)) = pu (cI (S.2 (a + 1))) i v := sh_vI h rfl (by decide) hv i
theorem s7_g1 {S : pS} {a : Nat} (h : Sh S a sp7) : oGI S a 7 1 = some (fI (S.2 a) 1) := sh_GI h rfl rfl
theorem s7_p1 {S : pS} {a : Nat} (h : Sh S a sp7) (v : Int32) : oPI S a 7 1 v = some (wF S a 1 (.int v)) := sh_P h rfl _
theorem s7_q1 {S : pS} {a : Nat} (h : Sh S a sp7) {v : Int32} (hv : v = 0 ∨ v = 1) : oPZ S a 7 1 v = some (wF S a 1 (.int v)) := by unfold oPZ; rw [if_pos hv]; exact sh_P h rfl _
theorem s7_k1 {S : pS} {a b : Nat} (h : Sh S a sp7) (hb : Sh S b sp7) (v : Int32) : Sh (wF S b 1 (.int v)) a sp7 := sh_kI h hb (by decide) rfl rfl v
theorem s7_v1 {S : pS} {a : Nat} (h : Sh S a sp7) (v : Int32) : fI ((wF S a 1 (.int v)).2 a) 1 = v := sh_vFI h rfl v
theorem s7_g2 {S : pS} {a : Nat} (h : Sh S a sp7) : oGI S a 7 2 = some (fI (S.2 a) 2) := sh_GI h rfl rfl
theorem s7_p2 {S : pS} {a : Nat} (h : Sh S a sp7) (v : Int32) : oPI S a 7 2 v = some (wF S a 2 (.int v)) := sh_P h rfl _
theorem s7_q2 {S : pS} {a : Nat} (h : Sh S a sp7) {v : Int32} (hv : v = 0 ∨ v = 1) : oPZ S a 7 2 v = some (wF S a 2 (.int v)) := by unfold oPZ; rw [if_pos hv]; exact sh_P h rfl _
theorem s7_k2 {S : pS} {a b : Nat} (h : Sh S a sp7) (hb : Sh S b sp7) (v : Int32) : Sh (wF S b 2 (.int v)) a sp7 := sh_kI h hb (by decide) rfl rfl v
theorem s7_v2 {S : pS} {a : Nat} (h : Sh S a sp7) (v : Int32) : fI ((wF S a 2 (.int v)).2 a) 2 = v := sh_vFI h rfl v
/-! class 8: Tree -/
def sp8 : List cS := [.inl (8, [.inl 1, .inl 2, .inl 3, .inl 4, .inl 5, .inl 6, .inr true, .inr true, .inr true, .inr false]), .inr (.int, 61), .inr (.int, 732), .inr (.int, 61), .inr (.char, 610), .inr (.int, 61), .inr (.int, 61)]
theorem s8_oF {S : pS} {a : Nat} {β : Type} {k : Option β} (h : Sh S a sp8) : ((oF S a 8).bind fun _ => k) = k := sh_oF h rfl
theorem s8_g0 {S : pS} {a : Nat} (h : Sh S a sp8) : oGA S a 8 0 = some (a + 1) := sh_GA h rfl rfl
theorem s8_r0 {S : pS} {a : Nat} (h : Sh S a sp8) {i : Nat} (hi : i < 61) : oAI S (a + 1) .int (nI i) = some (cI (S.2 (a + 1)) i) := sh_AI h rfl (by decide) hi (Nat.le_of_ble_eq_true rfl)
theorem s8_w0 {S : pS} {a : Nat} (h : Sh S a sp8) {i : Nat} (hi : i < 61) (v : Int32) : oSI S (a + 1) .int (nI i) v = some (wI S (a + 1) i v) := sh_SI h rfl (by decide) hi (Nat.le_of_ble_eq_true rfl)
theorem s8_v0 {S : pS} {a : Nat} (h : Sh S a sp8) (i : Nat) (v : Int32) : cI ((wI S (a + 1) i v).2 (a + 1)) = pu (cI (S.2 (a + 1))) i v := sh_vI h rfl (by decide) (vnar_int v) i
theorem s8_g1 {S : pS} {a : Nat} (h : Sh S a sp8) : oGA S a 8 1 = some (a + 2) := sh_GA h rfl rfl
theorem s8_r1 {S : pS} {a : Nat} (h : Sh S a sp8) {i : Nat} (hi : i < 732) : oAI S (a + 2) .int (nI i) = some (cI (S.2 (a + 2)) i) := sh_AI h rfl (by decide) hi (Nat.le_of_ble_eq_true rfl)
theorem s8_w1 {S : pS} {a : Nat} (h : Sh S a sp8) {i : Nat} (hi : i < 732) (v : Int32) : oSI S (a + 2) .int (nI i) v = some (wI S (a + 2) i v) := sh_SI h rfl (by decide) hi (Nat.le_of_ble_eq_true rfl)
theorem s8_v1 {S : pS} {a : Nat} (h : Sh S a sp8) (i : Nat) (v : Int32) : cI ((wI S (a + 2) i v).2 (a + 2)) = pu (cI (S.2 (a + 2))) i v := sh_vI h rfl (by decide) (vnar_int v) i
theorem s8_g2 {S : pS} {a : Nat} (h : Sh S a sp8) : oGA S a 8 2 = some (a + 3) := sh_GA h rfl rfl
theorem s8_r2 {S : pS} {a : Nat} (h : Sh S a sp8) {i : Nat} (hi : i < 61) : oAI S (a + 3) .int (nI i) = some (cI (S.2 (a + 3)) i) := sh_AI h rfl (by decide) hi (Nat.le_of_ble_eq_true rfl)
theorem s8_w2 {S : pS} {a : Nat} (h : Sh S a sp8) {i : Nat} (hi : i < 61) (v : Int32) : oSI S (a + 3) .int (nI i) v = some (wI S (a + 3) i v) := sh_SI h rfl (by decide) hi (Nat.le_of_ble_eq_true rfl)
theorem s8_v2 {S : pS} {a : Nat} (h : Sh S a sp8) (i : Nat) (v : Int32) : cI ((wI S (a + 3) i v).2 (a + 3)) = pu (cI (S.2 (a + 3))) i v := sh_vI h rfl (by decide) (vnar_int v) i
theorem s8_g3 {S : pS} {a : Nat} (h : Sh S a sp8) : oGA S a 8 3 = some (a + 4) := sh_GA h rfl rfl
theorem s8_r3 {S : pS} {a : Nat} (h : Sh S a sp8) {i : Nat} (hi : i < 610) : oAI S (a + 4) .char (nI i) = some (cI (S.2 (a + 4)) i) := sh_AI h rfl (by decide) hi (Nat.le_of_ble_eq_true rfl)
theorem s8_w3 {S : pS} {a : Nat} (h : Sh S a sp8) {i : Nat} (hi : i < 610) (v : Int32) : oSI S (a + 4) .char (nI i) v = some (wI S (a + 4) i v) := sh_SI h rfl (by decide) hi (Nat.le_of_ble_eq_true rfl)
theorem s8_v3 {S : pS} {a : Nat} (h : Sh S a sp8) (i : Nat) {v : Int32} (hv : vp_nar .char v = v) : cI ((wI S (a + 4) i v).2 (a + 4)) = pu (cI (S.2 (a + 4))) i v := sh_vI h rfl (by decide) hv i
theorem s8_g4 {S : pS} {a : Nat} (h : Sh S a sp8) : oGA S a 8 4 = some (a + 5) := sh_GA h rfl rfl
theorem s8_r4 {S : pS} {a : Nat} (h : Sh S a sp8) {i : Nat} (hi : i < 61) : oAI S (a + 5) .int (nI i) = some (cI (S.2 (a + 5)) i) := sh_AI h rfl (by decide) hi (Nat.le_of_ble_eq_true rfl)
theorem s8_w4 {S : pS} {a : Nat} (h : Sh S a sp8) {i : Nat} (hi : i < 61) (v : Int32) : oSI S (a + 5) .int (nI i) v = some (wI S (a + 5) i v) := sh_SI h rfl (by decide) hi (Nat.le_of_ble_eq_true rfl)
theorem s8_v4 {S : pS} {a : Nat} (h : Sh S a sp8) (i : Nat) (v : Int32) : cI ((wI S (a + 5) i v).2 (a + 5)) = pu (cI (S.2 (a + 5))) i v := sh_vI h rfl (by decide) (vnar_int v) i
theorem s8_g5 {S : pS} {a : Nat} (h : Sh S a sp8) : oGA S a 8 5 = some (a + 6) := sh_GA h rfl rfl
theorem s8_r5 {S : pS} {a : Nat} (h : Sh S a sp8) {i : Nat} (hi : i < 61) : oAI S (a + 6) .int (nI i) = some (cI (S.2 (a + 6)) i) := sh_AI h rfl (by decide) hi (Nat.le_of_ble_eq_true rfl)
theorem s8_w5 {S : pS} {a : Nat} (h : Sh S a sp8) {i : Nat} (hi : i < 61) (v : Int32) : oSI S (a + 6) .int (nI i) v = some (wI S (a + 6) i v) := sh_SI h rfl (by decide) hi (Nat.le_of_ble_eq_true rfl)
theorem s8_v5 {S : pS} {a : Nat} (h : Sh S a sp8) (i : Nat) (v : Int32) : cI ((wI S (a + 6) i v).2 (a + 6)) = pu (cI (S.2 (a + 6))) i v := sh_vI h rfl (by decide) (vnar_int v) i
theorem s8_g6 {S : pS} {a : Nat} (h : Sh S a sp8) : oGJ S a 8 6 = some (fJ (S.2 a) 6) := sh_GJ h rfl rfl
theorem s8_p6 {S : pS} {a : Nat} (h : Sh S a sp8) (v : Int64) : oPJ S a 8 6 v = some (wF S a 6 (.long v)) := sh_P h rfl _
theorem s8_k6 {S : pS} {a b : Nat} (h : Sh S a sp8) (hb : Sh S b sp8) (v : Int64) : Sh (wF S b 6 (.long v)) a sp8 := sh_kJ h hb (by decide) rfl rfl v
theorem s8_v6 {S : pS} {a : Nat} (h : Sh S a sp8) (v : Int64) : fJ ((wF S a 6 (.long v)).2 a) 6 = v := sh_vFJ h rfl v
theorem s8_g7 {S : pS} {a : Nat} (h : Sh S a sp8) : oGJ S a 8 7 = some (fJ (S.2 a) 7) := sh_GJ h rfl rfl
theorem s8_p7 {S : pS} {a : Nat} (h : Sh S a sp8) (v : Int64) : oPJ S a 8 7 v = some (wF S a 7 (.long v)) := sh_P h rfl _
theorem s8_k7 {S : pS} {a b : Nat} (h : Sh S a sp8) (hb : Sh S b sp8) (v : Int64) : Sh (wF S b 7 (.long v)) a sp8 := sh_kJ h hb (by decide) rfl rfl v
theorem s8_v7 {S : pS} {a : Nat} (h : Sh S a sp8) (v : Int64) : fJ ((wF S a 7 (.long v)).2 a) 7 = v := sh_vFJ h rfl v
theorem s8_g8 {S : pS} {a : Nat} (h : Sh S a sp8) : oGJ S a 8 8 = some (fJ (S.2 a) 8) := sh_GJ h rfl rfl
theorem s8_p8 {S : pS} {a : Nat} (h : Sh S a sp8) (v : Int64) : oPJ S a 8 8 v = some (wF S a 8 (.long v)) := sh_P h rfl _
theorem s8_k8 {S : pS} {a b : Nat} (h : Sh S a sp8) (hb : Sh S b sp8) (v : Int64) : Sh (wF S b 8 (.long v)) a sp8 := sh_kJ h hb (by decide) rfl rfl v
theorem s8_v8 {S : pS} {a : Nat} (h : Sh S a sp8) (v : Int64) : fJ ((wF S a 8 (.long v)).2 a) 8 = v := sh_vFJ h rfl v
theorem s8_g9 {S : pS} {a : Nat} (h : Sh S a sp8) : oGI S a 8 9 = some (fI (S.2 a) 9) := sh_GI h rfl rfl
theorem s8_p9 {S : pS} {a : Nat} (h : Sh S a sp8) (v : Int32) : oPI S a 8 9 v = some (wF S a 9 (.int v)) := sh_P h rfl _
theorem s8_q9 {S : pS} {a : Nat} (h : Sh S a sp8) {v : Int32} (hv : v = 0 ∨ v = 1) : oPZ S a 8 9 v = some (wF S a 9 (.int v)) := by unfold oPZ; rw [if_pos hv]; exact sh_P h rfl _
theorem s8_k9 {S : pS} {a b : Nat} (h : Sh S a sp8) (hb : Sh S b sp8) (v : Int32) : Sh (wF S b 9 (.int v)) a sp8 := sh_kI h hb (by decide) rfl rfl v
theorem s8_v9 {S : pS} {a : Nat} (h : Sh S a sp8) (v : Int32) : fI ((wF S a 9 (.int v)).2 a) 9 = v := sh_vFI h rfl v
/-! class 10: Model -/
def sp10 : List cS := [.inl (10, [.inr false, .inl 1, .inl 2, .inl 3, .inl 4, .inr false, .inr false, .inl 5, .inr false, .inl 6, .inr false, .inr false, .inl 7, .inr false, .inl 8, .inl 9, .inl 10, .inl 11, .inl 12, .inl 13, .inr false, .inr false, .inr false, .inr false, .inl 14, .inl 15, .inl 16, .inl 17, .inl 18, .inl 19, .inr false, .inl 20, .inl 21, .inl 22, .inl 23, .inl 24, .inr false, .inl 25, .inl 26, .inl 27, .inl 28, .inr false, .inl 29, .inl 30, .inl 31, .inl 32, .inl 33, .inl 34, .inl 35, .inl 36, .inl 37, .inl 38, .inl 39, .inl 40, .inr false]), .inr (.int, 1709), .inr (.int, 1709), .inr (.int, 1709), .inr (.int, 13672), .inr (.int, 4), .inr (.int, 80), .inr (.int, 3), .inr (.int, 61), .inr (.int, 61), .inr (.int, 61), .inr (.int, 61), .inr (.int, 61), .inr (.long, 61), .inr (.int, 12), .inr (.int, 5), .inr (.int, 5), .inr (.int, 5), .inr (.int, 50), .inr (.boolean, 5), .inr (.int, 5), .inr (.int, 5), .inr (.int, 5), .inr (.int, 50), .inr (.boolean, 5), .inr (.int, 400), .inr (.int, 400), .inr (.int, 400), .inr (.int, 400), .inr (.int, 62), .inr (.int, 62), .inr (.int, 62), .inr (.int, 700), .inr (.int, 41), .inr (.int, 41), .inr (.int, 41), .inr (.int, 41), .inr (.int, 41), .inr (.int, 41), .inr (.int, 41), .inr (.int, 41)]
theorem s10_oF {S : pS} {a : Nat} {β : Type} {k : Option β} (h : Sh S a sp10) : ((oF S a 10).bind fun _ => k) = k := sh_oF h rfl
theorem s10_g0 {S : pS} {a : Nat} (h : Sh S a sp10) : oGI S a 10 0 = some (fI (S.2 a) 0) := sh_GI h rfl rfl
theorem s10_p0 {S : pS} {a : Nat} (h : Sh S a sp10) (v : Int32) : oPI S a 10 0 v = some (wF S a 0 (.int v)) := sh_P h rfl _
theorem s10_q0 {S : pS} {a : Nat} (h : Sh S a sp10) {v : Int32} (hv : v = 0 ∨ v = 1) : oPZ S a 10 0 v = some (wF S a 0 (.int v)) := by unfold oPZ; rw [if_pos hv]; exact sh_P h rfl _
theorem s10_k0 {S : pS} {a b : Nat} (h : Sh S a sp10) (hb : Sh S b sp10) (v : Int32) : Sh (wF S b 0 (.int v)) a sp10 := sh_kI h hb (by decide) rfl rfl v
theorem s10_v0 {S : pS} {a : Nat} (h : Sh S a sp10) (v : Int32) : fI ((wF S a 0 (.int v)).2 a) 0 = v := sh_vFI h rfl v
theorem s10_g1 {S : pS} {a : Nat} (h : Sh S a sp10) : oGA S a 10 1 = some (a + 1) := sh_GA h rfl rfl
theorem s10_r1 {S : pS} {a : Nat} (h : Sh S a sp10) {i : Nat} (hi : i < 1709) : oAI S (a + 1) .int (nI i) = some (cI (S.2 (a + 1)) i) := sh_AI h rfl (by decide) hi (Nat.le_of_ble_eq_true rfl)
theorem s10_w1 {S : pS} {a : Nat} (h : Sh S a sp10) {i : Nat} (hi : i < 1709) (v : Int32) : oSI S (a + 1) .int (nI i) v = some (wI S (a + 1) i v) := sh_SI h rfl (by decide) hi (Nat.le_of_ble_eq_true rfl)
theorem s10_v1 {S : pS} {a : Nat} (h : Sh S a sp10) (i : Nat) (v : Int32) : cI ((wI S (a + 1) i v).2 (a + 1)) = pu (cI (S.2 (a + 1))) i v := sh_vI h rfl (by decide) (vnar_int v) i
theorem s10_g2 {S : pS} {a : Nat} (h : Sh S a sp10) : oGA S a 10 2 = some (a + 2) := sh_GA h rfl rfl
theorem s10_r2 {S : pS} {a : Nat} (h : Sh S a sp10) {i : Nat} (hi : i < 1709) : oAI S (a + 2) .int (nI i) = some (cI (S.2 (a + 2)) i) := sh_AI h rfl (by decide) hi (Nat.le_of_ble_eq_true rfl)
theorem s10_w2 {S : pS} {a : Nat} (h : Sh S a sp10) {i : Nat} (hi : i < 1709) (v : Int32) : oSI S (a + 2) .int (nI i) v = some (wI S (a + 2) i v) := sh_SI h rfl (by decide) hi (Nat.le_of_ble_eq_true rfl)
theorem s10_v2 {S : pS} {a : Nat} (h : Sh S a sp10) (i : Nat) (v : Int32) : cI ((wI S (a + 2) i v).2 (a + 2)) = pu (cI (S.2 (a + 2))) i v := sh_vI h rfl (by decide) (vnar_int v) i
theorem s10_g3 {S : pS} {a : Nat} (h : Sh S a sp10) : oGA S a 10 3 = some (a + 3) := sh_GA h rfl rfl
theorem s10_r3 {S : pS} {a : Nat} (h : Sh S a sp10) {i : Nat} (hi : i < 1709) : oAI S (a + 3) .int (nI i) = some (cI (S.2 (a + 3)) i) := sh_AI h rfl (by decide) hi (Nat.le_of_ble_eq_true rfl)
theorem s10_w3 {S : pS} {a : Nat} (h : Sh S a sp10) {i : Nat} (hi : i < 1709) (v : Int32) : oSI S (a + 3) .int (nI i) v = some (wI S (a + 3) i v) := sh_SI h rfl (by decide) hi (Nat.le_of_ble_eq_true rfl)
theorem s10_v3 {S : pS} {a : Nat} (h : Sh S a sp10) (i : Nat) (v : Int32) : cI ((wI S (a + 3) i v).2 (a + 3)) = pu (cI (S.2 (a + 3))) i v := sh_vI h rfl (by decide) (vnar_int v) i
theorem s10_g4 {S : pS} {a : Nat} (h : Sh S a sp10) : oGA S a 10 4 = some (a + 4) := sh_GA h rfl rfl
theorem s10_r4 {S : pS} {a : Nat} (h : Sh S a sp10) {i : Nat} (hi : i < 13672) : oAI S (a + 4) .int (nI i) = some (cI (S.2 (a + 4)) i) := sh_AI h rfl (by decide) hi (Nat.le_of_ble_eq_true rfl)
theorem s10_w4 {S : pS} {a : Nat} (h : Sh S a sp10) {i : Nat} (hi : i < 13672) (v : Int32) : oSI S (a + 4) .int (nI i) v = some (wI S (a + 4) i v) := sh_SI h rfl (by decide) hi (Nat.le_of_ble_eq_true rfl)
theorem s10_v4 {S : pS} {a : Nat} (h : Sh S a sp10) (i : Nat) (v : Int32) : cI ((wI S (a + 4) i v).2 (a + 4)) = pu (cI (S.2 (a + 4))) i v := sh_vI h rfl (by decide) (vnar_int v) i
theorem s10_g5 {S : pS} {a : Nat} (h : Sh S a sp10) : oGI S a 10 5 = some (fI (S.2 a) 5) := sh_GI h rfl rfl
theorem s10_p5 {S : pS} {a : Nat} (h : Sh S a sp10) (v : Int32) : oPI S a 10 5 v = some (wF S a 5 (.int v)) := sh_P h rfl _
theorem s10_q5 {S : pS} {a : Nat} (h : Sh S a sp10) {v : Int32} (hv : v = 0 ∨ v = 1) : oPZ S a 10 5 v = some (wF S a 5 (.int v)) := by unfold oPZ; rw [if_pos hv]; exact sh_P h rfl _
theorem s10_k5 {S : pS} {a b : Nat} (h : Sh S a sp10) (hb : Sh S b sp10) (v : Int32) : Sh (wF S b 5 (.int v)) a sp10 := sh_kI h hb (by decide) rfl rfl v
theorem s10_v5 {S : pS} {a : Nat} (h : Sh S a sp10) (v : Int32) : fI ((wF S a 5 (.int v)).2 a) 5 = v := sh_vFI h rfl v
theorem s10_g6 {S : pS} {a : Nat} (h : Sh S a sp10) : oGI S a 10 6 = some (fI (S.2 a) 6) := sh_GI h rfl rfl
theorem s10_p6 {S : pS} {a : Nat} (h : Sh S a sp10) (v : Int32) : oPI S a 10 6 v = some (wF S a 6 (.int v)) := sh_P h rfl _
theorem s10_q6 {S : pS} {a : Nat} (h : Sh S a sp10) {v : Int32} (hv : v = 0 ∨ v = 1) : oPZ S a 10 6 v = some (wF S a 6 (.int v)) := by unfold oPZ; rw [if_pos hv]; exact sh_P h rfl _
theorem s10_k6 {S : pS} {a b : Nat} (h : Sh S a sp10) (hb : Sh S b sp10) (v : Int32) : Sh (wF S b 6 (.int v)) a sp10 := sh_kI h hb (by decide) rfl rfl v
theorem s10_v6 {S : pS} {a : Nat} (h : Sh S a sp10) (v : Int32) : fI ((wF S a 6 (.int v)).2 a) 6 = v := sh_vFI h rfl v
theorem s10_g7 {S : pS} {a : Nat} (h : Sh S a sp10) : oGA S a 10 7 = some (a + 5) := sh_GA h rfl rfl
theorem s10_r7 {S : pS} {a : Nat} (h : Sh S a sp10) {i : Nat} (hi : i < 4) : oAI S (a + 5) .int (nI i) = some (cI (S.2 (a + 5)) i) := sh_AI h rfl (by decide) hi (Nat.le_of_ble_eq_true rfl)
theorem s10_w7 {S : pS} {a : Nat} (h : Sh S a sp10) {i : Nat} (hi : i < 4) (v : Int32) : oSI S (a + 5) .int (nI i) v = some (wI S (a + 5) i v) := sh_SI h rfl (by decide) hi (Nat.le_of_ble_eq_true rfl)
theorem s10_v7 {S : pS} {a : Nat} (h : Sh S a sp10) (i : Nat) (v : Int32) : cI ((wI S (a + 5) i v).2 (a + 5)) = pu (cI (S.2 (a + 5))) i v := sh_vI h rfl (by decide) (vnar_int v) i
theorem s10_g8 {S : pS} {a : Nat} (h : Sh S a sp10) : oGI S a 10 8 = some (fI (S.2 a) 8) := sh_GI h rfl rfl
theorem s10_p8 {S : pS} {a : Nat} (h : Sh S a sp10) (v : Int32) : oPI S a 10 8 v = some (wF S a 8 (.int v)) := sh_P h rfl _
theorem s10_q8 {S : pS} {a : Nat} (h : Sh S a sp10) {v : Int32} (hv : v = 0 ∨ v = 1) : oPZ S a 10 8 v = some (wF S a 8 (.int v)) := by unfold oPZ; rw [if_pos hv]; exact sh_P h rfl _
theorem s10_k8 {S : pS} {a b : Nat} (h : Sh S a sp10) (hb : Sh S b sp10) (v : Int32) : Sh (wF S b 8 (.int v)) a sp10 := sh_kI h hb (by decide) rfl rfl v
theorem s10_v8 {S : pS} {a : Nat} (h : Sh S a sp10) (v : Int32) : fI ((wF S a 8 (.int v)).2 a) 8 = v := sh_vFI h rfl v
theorem s10_g9 {S : pS} {a : Nat} (h : Sh S a sp10) : oGA S a 10 9 = some (a + 6) := sh_GA h rfl rfl
theorem s10_r9 {S : pS} {a : Nat} (h : Sh S a sp10) {i : Nat} (hi : i < 80) : oAI S (a + 6) .int (nI i) = some (cI (S.2 (a + 6)) i) := sh_AI h rfl (by decide) hi (Nat.le_of_ble_eq_true rfl)
theorem s10_w9 {S : pS} {a : Nat} (h : Sh S a sp10) {i : Nat} (hi : i < 80) (v : Int32) : oSI S (a + 6) .int (nI i) v = some (wI S (a + 6) i v) := sh_SI h rfl (by decide) hi (Nat.le_of_ble_eq_true rfl)
theorem s10_v9 {S : pS} {a : Nat} (h : Sh S a sp10) (i : Nat) (v : Int32) : cI ((wI S (a + 6) i v).2 (a + 6)) = pu (cI (S.2 (a + 6))) i v := sh_vI h rfl (by decide) (vnar_int v) i
theorem s10_g10 {S : pS} {a : Nat} (h : Sh S a sp10) : oGI S a 10 10 = some (fI (S.2 a) 10) := sh_GI h rfl rfl
theorem s10_p10 {S : pS} {a : Nat} (h : Sh S a sp10) (v : Int32) : oPI S a 10 10 v = some (wF S a 10 (.int v)) := sh_P h rfl _
theorem s10_q10 {S : pS} {a : Nat} (h : Sh S a sp10) {v : Int32} (hv : v = 0 ∨ v = 1) : oPZ S a 10 10 v = some (wF S a 10 (.int v)) := by unfold oPZ; rw [if_pos hv]; exact sh_P h rfl _
theorem s10_k10 {S : pS} {a b : Nat} (h : Sh S a sp10) (hb : Sh S b sp10) (v : Int32) : Sh (wF S b 10 (.int v)) a sp10 := sh_kI h hb (by decide) rfl rfl v
theorem s10_v10 {S : pS} {a : Nat} (h : Sh S a sp10) (v : Int32) : fI ((wF S a 10 (.int v)).2 a) 10 = v := sh_vFI h rfl v
theorem s10_g11 {S : pS} {a : Nat} (h : Sh S a sp10) : oGI S a 10 11 = some (fI (S.2 a) 11) := sh_GI h rfl rfl
theorem s10_p11 {S : pS} {a : Nat} (h : Sh S a sp10) (v : Int32) : oPI S a 10 11 v = some (wF S a 11 (.int v)) := sh_P h rfl _
theorem s10_q11 {S : pS} {a : Nat} (h : Sh S a sp10) {v : Int32} (hv : v = 0 ∨ v = 1) : oPZ S a 10 11 v = some (wF S a 11 (.int v)) := by unfold oPZ; rw [if_pos hv]; exact sh_P h rfl _
theorem s10_k11 {S : pS} {a b : Nat} (h : Sh S a sp10) (hb : Sh S b sp10) (v : Int32) : Sh (wF S b 11 (.int v)) a sp10 := sh_kI h hb (by decide) rfl rfl v
theorem s10_v11 {S : pS} {a : Nat} (h : Sh S a sp10) (v : Int32) : fI ((wF S a 11 (.int v)).2 a) 11 = v := sh_vFI h rfl v
theorem s10_g12 {S : pS} {a : Nat} (h : Sh S a sp10) : oGA S a 10 12 = some (a + 7) := sh_GA h rfl rfl
theorem s10_r12 {S : pS} {a : Nat} (h : Sh S a sp10) {i : Nat} (hi : i < 3) : oAI S (a + 7) .int (nI i) = some (cI (S.2 (a + 7)) i) := sh_AI h rfl (by decide) hi (Nat.le_of_ble_eq_true rfl)
theorem s10_w12 {S : pS} {a : Nat} (h : Sh S a sp10) {i : Nat} (hi : i < 3) (v : Int32) : oSI S (a + 7) .int (nI i) v = some (wI S (a + 7) i v) := sh_SI h rfl (by decide) hi (Nat.le_of_ble_eq_true rfl)
theorem s10_v12 {S : pS} {a : Nat} (h : Sh S a sp10) (i : Nat) (v : Int32) : cI ((wI S (a + 7) i v).2 (a + 7)) = pu (cI (S.2 (a + 7))) i v := sh_vI h rfl (by decide) (vnar_int v) i
theorem s10_g13 {S : pS} {a : Nat} (h : Sh S a sp10) : oGI S a 10 13 = some (fI (S.2 a) 13) := sh_GI h rfl rfl
theorem s10_p13 {S : pS} {a : Nat} (h : Sh S a sp10) (v : Int32) : oPI S a 10 13 v = some (wF S a 13 (.int v)) := sh_P h rfl _
theorem s10_q13 {S : pS} {a : Nat} (h : Sh S a sp10) {v : Int32} (hv : v = 0 ∨ v = 1) : oPZ S a 10 13 v = some (wF S a 13 (.int v)) := by unfold oPZ; rw [if_pos hv]; exact sh_P h rfl _
theorem s10_k13 {S : pS} {a b : Nat} (h : Sh S a sp10) (hb : Sh S b sp10) (v : Int32) : Sh (wF S b 13 (.int v)) a sp10 := sh_kI h hb (by decide) rfl rfl v
theorem s10_v13 {S : pS} {a : Nat} (h : Sh S a sp10) (v : Int32) : fI ((wF S a 13 (.int v)).2 a) 13 = v := sh_vFI h rfl v
theorem s10_g14 {S : pS} {a : Nat} (h : Sh S a sp10) : oGA S a 10 14 = some (a + 8) := sh_GA h rfl rfl
theorem s10_r14 {S : pS} {a : Nat} (h : Sh S a sp10) {i : Nat} (hi : i < 61) : oAI S (a + 8) .int (nI i) = some (cI (S.2 (a + 8)) i) := sh_AI h rfl (by decide) hi (Nat.le_of_ble_eq_true rfl)
theorem s10_w14 {S : pS} {a : Nat} (h : Sh S a sp10) {i : Nat} (hi : i < 61) (v : Int32) : oSI S (a + 8) .int (nI i) v = some (wI S (a + 8) i v) := sh_SI h rfl (by decide) hi (Nat.le_of_ble_eq_true rfl)
theorem s10_v14 {S : pS} {a : Nat} (h : Sh S a sp10) (i : Nat) (v : Int32) : cI ((wI S (a + 8) i v).2 (a + 8)) = pu (cI (S.2 (a + 8))) i v := sh_vI h rfl (by decide) (vnar_int v) i
theorem s10_g15 {S : pS} {a : Nat} (h : Sh S a sp10) : oGA S a 10 15 = some (a + 9) := sh_GA h rfl rfl
theorem s10_r15 {S : pS} {a : Nat} (h : Sh S a sp10) {i : Nat} (hi : i < 61) : oAI S (a + 9) .int (nI i) = some (cI (S.2 (a + 9)) i) := sh_AI h rfl (by decide) hi (Nat.le_of_ble_eq_true rfl)
theorem s10_w15 {S : pS} {a : Nat} (h : Sh S a sp10) {i : Nat} (hi : i < 61) (v : Int32) : oSI S (a + 9) .int (nI i) v = some (wI S (a + 9) i v) := sh_SI h rfl (by decide) hi (Nat.le_of_ble_eq_true rfl)
theorem s10_v15 {S : pS} {a : Nat} (h : Sh S a sp10) (i : Nat) (v : Int32) : cI ((wI S (a + 9) i v).2 (a + 9)) = pu (cI (S.2 (a + 9))) i v := sh_vI h rfl (by decide) (vnar_int v) i
theorem s10_g16 {S : pS} {a : Nat} (h : Sh S a sp10) : oGA S a 10 16 = some (a + 10) := sh_GA h rfl rfl
theorem s10_r16 {S : pS} {a : Nat} (h : Sh S a sp10) {i : Nat} (hi : i < 61) : oAI S (a + 10) .int (nI i) = some (cI (S.2 (a + 10)) i) := sh_AI h rfl (by decide) hi (Nat.le_of_ble_eq_true rfl)
theorem s10_w16 {S : pS} {a : Nat} (h : Sh S a sp10) {i : Nat} (hi : i < 61) (v : Int32) : oSI S (a + 10) .int (nI i) v = some (wI S (a + 10) i v) := sh_SI h rfl (by decide) hi (Nat.le_of_ble_eq_true rfl)
theorem s10_v16 {S : pS} {a : Nat} (h : Sh S a sp10) (i : Nat) (v : Int32) : cI ((wI S (a + 10) i v).2 (a + 10)) = pu (cI (S.2 (a + 10))) i v := sh_vI h rfl (by decide) (vnar_int v) i
theorem s10_g17 {S : pS} {a : Nat} (h : Sh S a sp10) : oGA S a 10 17 = some (a + 11) := sh_GA h rfl rfl
theorem s10_r17 {S : pS} {a : Nat} (h : Sh S a sp10) {i : Nat} (hi : i < 61) : oAI S (a + 11) .int (nI i) = some (cI (S.2 (a + 11)) i) := sh_AI h rfl (by decide) hi (Nat.le_of_ble_eq_true rfl)
theorem s10_w17 {S : pS} {a : Nat} (h : Sh S a sp10) {i : Nat} (hi : i < 61) (v : Int32) : oSI S (a + 11) .int (nI i) v = some (wI S (a + 11) i v) := sh_SI h rfl (by decide) hi (Nat.le_of_ble_eq_true rfl)
theorem s10_v17 {S : pS} {a : Nat} (h : Sh S a sp10) (i : Nat) (v : Int32) : cI ((wI S (a + 11) i v).2 (a + 11)) = pu (cI (S.2 (a + 11))) i v := sh_vI h rfl (by decide) (vnar_int v) i
theorem s10_g18 {S : pS} {a : Nat} (h : Sh S a sp10) : oGA S a 10 18 = some (a + 12) := sh_GA h rfl rfl
theorem s10_r18 {S : pS} {a : Nat} (h : Sh S a sp10) {i : Nat} (hi : i < 61) : oAI S (a + 12) .int (nI i) = some (cI (S.2 (a + 12)) i) := sh_AI h rfl (by decide) hi (Nat.le_of_ble_eq_true rfl)
theorem s10_w18 {S : pS} {a : Nat} (h : Sh S a sp10) {i : Nat} (hi : i < 61) (v : Int32) : oSI S (a + 12) .int (nI i) v = some (wI S (a + 12) i v) := sh_SI h rfl (by decide) hi (Nat.le_of_ble_eq_true rfl)
theorem s10_v18 {S : pS} {a : Nat} (h : Sh S a sp10) (i : Nat) (v : Int32) : cI ((wI S (a + 12) i v).2 (a + 12)) = pu (cI (S.2 (a + 12))) i v := sh_vI h rfl (by decide) (vnar_int v) i
theorem s10_g19 {S : pS} {a : Nat} (h : Sh S a sp10) : oGA S a 10 19 = some (a + 13) := sh_GA h rfl rfl
theorem s10_r19 {S : pS} {a : Nat} (h : Sh S a sp10) {i : Nat} (hi : i < 61) : oAJ S (a + 13) .long (nI i) = some (cJ (S.2 (a + 13)) i) := sh_AJ h rfl hi (Nat.le_of_ble_eq_true rfl)
theorem s10_w19 {S : pS} {a : Nat} (h : Sh S a sp10) {i : Nat} (hi : i < 61) (v : Int64) : oSJ S (a + 13) .long (nI i) v = some (wJ S (a + 13) i v) := sh_SJ h rfl hi (Nat.le_of_ble_eq_true rfl)
theorem s10_v19 {S : pS} {a : Nat} (h : Sh S a sp10) (i : Nat) (v : Int64) : cJ ((wJ S (a + 13) i v).2 (a + 13)) = pu (cJ (S.2 (a + 13))) i v := sh_vJ h rfl i v
theorem s10_g20 {S : pS} {a : Nat} (h : Sh S a sp10) : oGI S a 10 20 = some (fI (S.2 a) 20) := sh_GI h rfl rfl
theorem s10_p20 {S : pS} {a : Nat} (h : Sh S a sp10) (v : Int32) : oPI S a 10 20 v = some (wF S a 20 (.int v)) := sh_P h rfl _
theorem s10_q20 {S : pS} {a : Nat} (h : Sh S a sp10) {v : Int32} (hv : v = 0 ∨ v = 1) : oPZ S a 10 20 v = some (wF S a 20 (.int v)) := by unfold oPZ; rw [if_pos hv]; exact sh_P h rfl _
theorem s10_k20 {S : pS} {a b : Nat} (h : Sh S a sp10) (hb : Sh S b sp10) (v : Int32) : Sh (wF S b 20 (.int v)) a sp10 := sh_kI h hb (by decide) rfl rfl v
theorem s10_v20 {S : pS} {a : Nat} (h : Sh S a sp10) (v : Int32) : fI ((wF S a 20 (.int v)).2 a) 20 = v := sh_vFI h rfl v
theorem s10_g21 {S : pS} {a : Nat} (h : Sh S a sp10) : oGI S a 10 21 = some (fI (S.2 a) 21) := sh_GI h rfl rfl
theorem s10_p21 {S : pS} {a : Nat} (h : Sh S a sp10) (v : Int32) : oPI S a 10 21 v = some (wF S a 21 (.int v)) := sh_P h rfl _
theorem s10_q21 {S : pS} {a : Nat} (h : Sh S a sp10) {v : Int32} (hv : v = 0 ∨ v = 1) : oPZ S a 10 21 v = some (wF S a 21 (.int v)) := by unfold oPZ; rw [if_pos hv]; exact sh_P h rfl _
theorem s10_k21 {S : pS} {a b : Nat} (h : Sh S a sp10) (hb : Sh S b sp10) (v : Int32) : Sh (wF S b 21 (.int v)) a sp10 := sh_kI h hb (by decide) rfl rfl v
theorem s10_v21 {S : pS} {a : Nat} (h : Sh S a sp10) (v : Int32) : fI ((wF S a 21 (.int v)).2 a) 21 = v := sh_vFI h rfl v
theorem s10_g22 {S : pS} {a : Nat} (h : Sh S a sp10) : oGI S a 10 22 = some (fI (S.2 a) 22) := sh_GI h rfl rfl
theorem s10_p22 {S : pS} {a : Nat} (h : Sh S a sp10) (v : Int32) : oPI S a 10 22 v = some (wF S a 22 (.int v)) := sh_P h rfl _
theorem s10_q22 {S : pS} {a : Nat} (h : Sh S a sp10) {v : Int32} (hv : v = 0 ∨ v = 1) : oPZ S a 10 22 v = some (wF S a 22 (.int v)) := by unfold oPZ; rw [if_pos hv]; exact sh_P h rfl _
theorem s10_k22 {S : pS} {a b : Nat} (h : Sh S a sp10) (hb : Sh S b sp10) (v : Int32) : Sh (wF S b 22 (.int v)) a sp10 := sh_kI h hb (by decide) rfl rfl v
theorem s10_v22 {S : pS} {a : Nat} (h : Sh S a sp10) (v : Int32) : fI ((wF S a 22 (.int v)).2 a) 22 = v := sh_vFI h rfl v
theorem s10_g23 {S : pS} {a : Nat} (h : Sh S a sp10) : oGI S a 10 23 = some (fI (S.2 a) 23) := sh_GI h rfl rfl
theorem s10_p23 {S : pS} {a : Nat} (h : Sh S a sp10) (v : Int32) : oPI S a 10 23 v = some (wF S a 23 (.int v)) := sh_P h rfl _
theorem s10_q23 {S : pS} {a : Nat} (h : Sh S a sp10) {v : Int32} (hv : v = 0 ∨ v = 1) : oPZ S a 10 23 v = some (wF S a 23 (.int v)) := by unfold oPZ; rw [if_pos hv]; exact sh_P h rfl _
theorem s10_k23 {S : pS} {a b : Nat} (h : Sh S a sp10) (hb : Sh S b sp10) (v : Int32) : Sh (wF S b 23 (.int v)) a sp10 := sh_kI h hb (by decide) rfl rfl v
theorem s10_v23 {S : pS} {a : Nat} (h : Sh S a sp10) (v : Int32) : fI ((wF S a 23 (.int v)).2 a) 23 = v := sh_vFI h rfl v
theorem s10_g24 {S : pS} {a : Nat} (h : Sh S a sp10) : oGA S a 10 24 = some (a + 14) := sh_GA h rfl rfl
theorem s10_r24 {S : pS} {a : Nat} (h : Sh S a sp10) {i : Nat} (hi : i < 12) : oAI S (a + 14) .int (nI i) = some (cI (S.2 (a + 14)) i) := sh_AI h rfl (by decide) hi (Nat.le_of_ble_eq_true rfl)
theorem s10_w24 {S : pS} {a : Nat} (h : Sh S a sp10) {i : Nat} (hi : i < 12) (v : Int32) : oSI S (a + 14) .int (nI i) v = some (wI S (a + 14) i v) := sh_SI h rfl (by decide) hi (Nat.le_of_ble_eq_true rfl)
theorem s10_v24 {S : pS} {a : Nat} (h : Sh S a sp10) (i : Nat) (v : Int32) : cI ((wI S (a + 14) i v).2 (a + 14)) = pu (cI (S.2 (a + 14))) i v := sh_vI h rfl (by decide) (vnar_int v) i
theorem s10_g25 {S : pS} {a : Nat} (h : Sh S a sp10) : oGA S a 10 25 = some (a + 15) := sh_GA h rfl rfl
theorem s10_r25 {S : pS} {a : Nat} (h : Sh S a sp10) {i : Nat} (hi : i < 5) : oAI S (a + 15) .int (nI i) = some (cI (S.2 (a + 15)) i) := sh_AI h rfl (by decide) hi (Nat.le_of_ble_eq_true rfl)
theorem s10_w25 {S : pS} {a : Nat} (h : Sh S a sp10) {i : Nat} (hi : i < 5) (v : Int32) : oSI S (a + 15) .int (nI i) v = some (wI S (a + 15) i v) := sh_SI h rfl (by decide) hi (Nat.le_of_ble_eq_true rfl)
theorem s10_v25 {S : pS} {a : Nat} (h : Sh S a sp10) (i : Nat) (v : Int32) : cI ((wI S (a + 15) i v).2 (a + 15)) = pu (cI (S.2 (a + 15))) i v := sh_vI h rfl (by decide) (vnar_int v) i
theorem s10_g26 {S : pS} {a : Nat} (h : Sh S a sp10) : oGA S a 10 26 = some (a + 16) := sh_GA h rfl rfl
theorem s10_r26 {S : pS} {a : Nat} (h : Sh S a sp10) {i : Nat} (hi : i < 5) : oAI S (a + 16) .int (nI i) = some (cI (S.2 (a + 16)) i) := sh_AI h rfl (by decide) hi (Nat.le_of_ble_eq_true rfl)
theorem s10_w26 {S : pS} {a : Nat} (h : Sh S a sp10) {i : Nat} (hi : i < 5) (v : Int32) : oSI S (a + 16) .int (nI i) v = some (wI S (a + 16) i v) := sh_SI h rfl (by decide) hi (Nat.le_of_ble_eq_true rfl)
theorem s10_v26 {S : pS} {a : Nat} (h : Sh S a sp10) (i : Nat) (v : Int32) : cI ((wI S (a + 16) i v).2 (a + 16)) = pu (cI (S.2 (a + 16))) i v := sh_vI h rfl (by decide) (vnar_int v) i
theorem s10_g27 {S : pS} {a : Nat} (h : Sh S a sp10) : oGA S a 10 27 = some (a + 17) := sh_GA h rfl rfl
theorem s10_r27 {S : pS} {a : Nat} (h : Sh S a sp10) {i : Nat} (hi : i < 5) : oAI S (a + 17) .int (nI i) = some (cI (S.2 (a + 17)) i) := sh_AI h rfl (by decide) hi (Nat.le_of_ble_eq_true rfl)
theorem s10_w27 {S : pS} {a : Nat} (h : Sh S a sp10) {i : Nat} (hi : i < 5) (v : Int32) : oSI S (a + 17) .int (nI i) v = some (wI S (a + 17) i v) := sh_SI h rfl (by decide) hi (Nat.le_of_ble_eq_true rfl)
theorem s10_v27 {S : pS} {a : Nat} (h : Sh S a sp10) (i : Nat) (v : Int32) : cI ((wI S (a + 17) i v).2 (a + 17)) = pu (cI (S.2 (a + 17))) i v := sh_vI h rfl (by decide) (vnar_int v) i
theorem s10_g28 {S : pS} {a : Nat} (h : Sh S a sp10) : oGA S a 10 28 = some (a + 18) := sh_GA h rfl rfl
theorem s10_r28 {S : pS} {a : Nat} (h : Sh S a sp10) {i : Nat} (hi : i < 50) : oAI S (a + 18) .int (nI i) = some (cI (S.2 (a + 18)) i) := sh_AI h rfl (by decide) hi (Nat.le_of_ble_eq_true rfl)
theorem s10_w28 {S : pS} {a : Nat} (h : Sh S a sp10) {i : Nat} (hi : i < 50) (v : Int32) : oSI S (a + 18) .int (nI i) v = some (wI S (a + 18) i v) := sh_SI h rfl (by decide) hi (Nat.le_of_ble_eq_true rfl)
theorem s10_v28 {S : pS} {a : Nat} (h : Sh S a sp10) (i : Nat) (v : Int32) : cI ((wI S (a + 18) i v).2 (a + 18)) = pu (cI (S.2 (a + 18))) i v := sh_vI h rfl (by decide) (vnar_int v) i
theorem s10_g29 {S : pS} {a : Nat} (h : Sh S a sp10) : oGA S a 10 29 = some (a + 19) := sh_GA h rfl rfl
theorem s10_r29 {S : pS} {a : Nat} (h : Sh S a sp10) {i : Nat} (hi : i < 5) : oAI S (a + 19) .boolean (nI i) = some (cI (S.2 (a + 19)) i) := sh_AI h rfl (by decide) hi (Nat.le_of_ble_eq_true rfl)
theorem s10_w29 {S : pS} {a : Nat} (h : Sh S a sp10) {i : Nat} (hi : i < 5) (v : Int32) : oSI S (a + 19) .boolean (nI i) v = some (wI S (a + 19) i v) := sh_SI h rfl (by decide) hi (Nat.le_of_ble_eq_true rfl)
theorem s10_v29 {S : pS} {a : Nat} (h : Sh S a sp10) (i : Nat) {v : Int32} (hv : vp_nar .boolean v = v) : cI ((wI S (a + 19) i v).2 (a + 19)) = pu (cI (S.2 (a + 19))) i v := sh_vI h rfl (by decide) hv i
theorem s10_g30 {S : pS} {a : Nat} (h : Sh S a sp10) : oGI S a 10 30 = some (fI (S.2 a) 30) := sh_GI h rfl rfl
theorem s10_p30 {S : pS} {a : Nat} (h : Sh S a sp10) (v : Int32) : oPI S a 10 30 v = some (wF S a 30 (.int v)) := sh_P h rfl _
theorem s10_q30 {S : pS} {a : Nat} (h : Sh S a sp10) {v : Int32} (hv : v = 0 ∨ v = 1) : oPZ S a 10 30 v = some (wF S a 30 (.int v)) := by unfold oPZ; rw [if_pos hv]; exact sh_P h rfl _
theorem s10_k30 {S : pS} {a b : Nat} (h : Sh S a sp10) (hb : Sh S b sp10) (v : Int32) : Sh (wF S b 30 (.int v)) a sp10 := sh_kI h hb (by decide) rfl rfl v
theorem s10_v30 {S : pS} {a : Nat} (h : Sh S a sp10) (v : Int32) : fI ((wF S a 30 (.int v)).2 a) 30 = v := sh_vFI h rfl v
theorem s10_g31 {S : pS} {a : Nat} (h : Sh S a sp10) : oGA S a 10 31 = some (a + 20) := sh_GA h rfl rfl
theorem s10_r31 {S : pS} {a : Nat} (h : Sh S a sp10) {i : Nat} (hi : i < 5) : oAI S (a + 20) .int (nI i) = some (cI (S.2 (a + 20)) i) := sh_AI h rfl (by decide) hi (Nat.le_of_ble_eq_true rfl)
theorem s10_w31 {S : pS} {a : Nat} (h : Sh S a sp10) {i : Nat} (hi : i < 5) (v : Int32) : oSI S (a + 20) .int (nI i) v = some (wI S (a + 20) i v) := sh_SI h rfl (by decide) hi (Nat.le_of_ble_eq_true rfl)
theorem s10_v31 {S : pS} {a : Nat} (h : Sh S a sp10) (i : Nat) (v : Int32) : cI ((wI S (a + 20) i v).2 (a + 20)) = pu (cI (S.2 (a + 20))) i v := sh_vI h rfl (by decide) (vnar_int v) i
theorem s10_g32 {S : pS} {a : Nat} (h : Sh S a sp10) : oGA S a 10 32 = some (a + 21) := sh_GA h rfl rfl
theorem s10_r32 {S : pS} {a : Nat} (h : Sh S a sp10) {i : Nat} (hi : i < 5) : oAI S (a + 21) .int (nI i) = some (cI (S.2 (a + 21)) i) := sh_AI h rfl (by decide) hi (Nat.le_of_ble_eq_true rfl)
theorem s10_w32 {S : pS} {a : Nat} (h : Sh S a sp10) {i : Nat} (hi : i < 5) (v : Int32) : oSI S (a + 21) .int (nI i) v = some (wI S (a + 21) i v) := sh_SI h rfl (by decide) hi (Nat.le_of_ble_eq_true rfl)
theorem s10_v32 {S : pS} {a : Nat} (h : Sh S a sp10) (i : Nat) (v : Int32) : cI ((wI S (a + 21) i v).2 (a + 21)) = pu (cI (S.2 (a + 21))) i v := sh_vI h rfl (by decide) (vnar_int v) i
theorem s10_g33 {S : pS} {a : Nat} (h : Sh S a sp10) : oGA S a 10 33 = some (a + 22) := sh_GA h rfl rfl
theorem s10_r33 {S : pS} {a : Nat} (h : Sh S a sp10) {i : Nat} (hi : i < 5) : oAI S (a + 22) .int (nI i) = some (cI (S.2 (a + 22)) i) := sh_AI h rfl (by decide) hi (Nat.le_of_ble_eq_true rfl)
theorem s10_w33 {S : pS} {a : Nat} (h : Sh S a sp10) {i : Nat} (hi : i < 5) (v : Int32) : oSI S (a + 22) .int (nI i) v = some (wI S (a + 22) i v) := sh_SI h rfl (by decide) hi (Nat.le_of_ble_eq_true rfl)
theorem s10_v33 {S : pS} {a : Nat} (h : Sh S a sp10) (i : Nat) (v : Int32) : cI ((wI S (a + 22) i v).2 (a + 22)) = pu (cI (S.2 (a + 22))) i v := sh_vI h rfl (by decide) (vnar_int v) i
theorem s10_g34 {S : pS} {a : Nat} (h : Sh S a sp10) : oGA S a 10 34 = some (a + 23) := sh_GA h rfl rfl
theorem s10_r34 {S : pS} {a : Nat} (h : Sh S a sp10) {i : Nat} (hi : i < 50) : oAI S (a + 23) .int (nI i) = some (cI (S.2 (a + 23)) i) := sh_AI h rfl (by decide) hi (Nat.le_of_ble_eq_true rfl)
theorem s10_w34 {S : pS} {a : Nat} (h : Sh S a sp10) {i : Nat} (hi : i < 50) (v : Int32) : oSI S (a + 23) .int (nI i) v = some (wI S (a + 23) i v) := sh_SI h rfl (by decide) hi (Nat.le_of_ble_eq_true rfl)
theorem s10_v34 {S : pS} {a : Nat} (h : Sh S a sp10) (i : Nat) (v : Int32) : cI ((wI S (a + 23) i v).2 (a + 23)) = pu (cI (S.2 (a + 23))) i v := sh_vI h rfl (by decide) (vnar_int v) i
theorem s10_g35 {S : pS} {a : Nat} (h : Sh S a sp10) : oGA S a 10 35 = some (a + 24) := sh_GA h rfl rfl
theorem s10_r35 {S : pS} {a : Nat} (h : Sh S a sp10) {i : Nat} (hi : i < 5) : oAI S (a + 24) .boolean (nI i) = some (cI (S.2 (a + 24)) i) := sh_AI h rfl (by decide) hi (Nat.le_of_ble_eq_true rfl)
theorem s10_w35 {S : pS} {a : Nat} (h : Sh S a sp10) {i : Nat} (hi : i < 5) (v : Int32) : oSI S (a + 24) .boolean (nI i) v = some (wI S (a + 24) i v) := sh_SI h rfl (by decide) hi (Nat.le_of_ble_eq_true rfl)
theorem s10_v35 {S : pS} {a : Nat} (h : Sh S a sp10) (i : Nat) {v : Int32} (hv : vp_nar .boolean v = v) : cI ((wI S (a + 24) i v).2 (a + 24)) = pu (cI (S.2 (a + 24))) i v := sh_vI h rfl (by decide) hv i
theorem s10_g36 {S : pS} {a : Nat} (h : Sh S a sp10) : oGI S a 10 36 = some (fI (S.2 a) 36) := sh_GI h rfl rfl
theorem s10_p36 {S : pS} {a : Nat} (h : Sh S a sp10) (v : Int32) : oPI S a 10 36 v = some (wF S a 36 (.int v)) := sh_P h rfl _
theorem s10_q36 {S : pS} {a : Nat} (h : Sh S a sp10) {v : Int32} (hv : v = 0 ∨ v = 1) : oPZ S a 10 36 v = some (wF S a 36 (.int v)) := by unfold oPZ; rw [if_pos hv]; exact sh_P h rfl _
theorem s10_k36 {S : pS} {a b : Nat} (h : Sh S a sp10) (hb : Sh S b sp10) (v : Int32) : Sh (wF S b 36 (.int v)) a sp10 := sh_kI h hb (by decide) rfl rfl v
theorem s10_v36 {S : pS} {a : Nat} (h : Sh S a sp10) (v : Int32) : fI ((wF S a 36 (.int v)).2 a) 36 = v := sh_vFI h rfl v
theorem s10_g37 {S : pS} {a : Nat} (h : Sh S a sp10) : oGA S a 10 37 = some (a + 25) := sh_GA h rfl rfl
theorem s10_r37 {S : pS} {a : Nat} (h : Sh S a sp10) {i : Nat} (hi : i < 400) : oAI S (a + 25) .int (nI i) = some (cI (S.2 (a + 25)) i) := sh_AI h rfl (by decide) hi (Nat.le_of_ble_eq_true rfl)
theorem s10_w37 {S : pS} {a : Nat} (h : Sh S a sp10) {i : Nat} (hi : i < 400) (v : Int32) : oSI S (a + 25) .int (nI i) v = some (wI S (a + 25) i v) := sh_SI h rfl (by decide) hi (Nat.le_of_ble_eq_true rfl)
theorem s10_v37 {S : pS} {a : Nat} (h : Sh S a sp10) (i : Nat) (v : Int32) : cI ((wI S (a + 25) i v).2 (a + 25)) = pu (cI (S.2 (a + 25))) i v := sh_vI h rfl (by decide) (vnar_int v) i
theorem s10_g38 {S : pS} {a : Nat} (h : Sh S a sp10) : oGA S a 10 38 = some (a + 26) := sh_GA h rfl rfl
theorem s10_r38 {S : pS} {a : Nat} (h : Sh S a sp10) {i : Nat} (hi : i < 400) : oAI S (a + 26) .int (nI i) = some (cI (S.2 (a + 26)) i) := sh_AI h rfl (by decide) hi (Nat.le_of_ble_eq_true rfl)
theorem s10_w38 {S : pS} {a : Nat} (h : Sh S a sp10) {i : Nat} (hi : i < 400) (v : Int32) : oSI S (a + 26) .int (nI i) v = some (wI S (a + 26) i v) := sh_SI h rfl (by decide) hi (Nat.le_of_ble_eq_true rfl)
theorem s10_v38 {S : pS} {a : Nat} (h : Sh S a sp10) (i : Nat) (v : Int32) : cI ((wI S (a + 26) i v).2 (a + 26)) = pu (cI (S.2 (a + 26))) i v := sh_vI h rfl (by decide) (vnar_int v) i
theorem s10_g39 {S : pS} {a : Nat} (h : Sh S a sp10) : oGA S a 10 39 = some (a + 27) := sh_GA h rfl rfl
theorem s10_r39 {S : pS} {a : Nat} (h : Sh S a sp10) {i : Nat} (hi : i < 400) : oAI S (a + 27) .int (nI i) = some (cI (S.2 (a + 27)) i) := sh_AI h rfl (by decide) hi (Nat.le_of_ble_eq_true rfl)
theorem s10_w39 {S : pS} {a : Nat} (h : Sh S a sp10) {i : Nat} (hi : i < 400) (v : Int32) : oSI S (a + 27) .int (nI i) v = some (wI S (a + 27) i v) := sh_SI h rfl (by decide) hi (Nat.le_of_ble_eq_true rfl)
theorem s10_v39 {S : pS} {a : Nat} (h : Sh S a sp10) (i : Nat) (v : Int32) : cI ((wI S (a + 27) i v).2 (a + 27)) = pu (cI (S.2 (a + 27))) i v := sh_vI h rfl (by decide) (vnar_int v) i
theorem s10_g40 {S : pS} {a : Nat} (h : Sh S a sp10) : oGA S a 10 40 = some (a + 28) := sh_GA h rfl rfl
theorem s10_r40 {S : pS} {a : Nat} (h : Sh S a sp10) {i : Nat} (hi : i < 400) : oAI S (a + 28) .int (nI i) = some (cI (S.2 (a + 28)) i) := sh_AI h rfl (by decide) hi (Nat.le_of_ble_eq_true rfl)
theorem s10_w40 {S : pS} {a : Nat} (h : Sh S a sp10) {i : Nat} (hi : i < 400) (v : Int32) : oSI S (a + 28) .int (nI i) v = some (wI S (a + 28) i v) := sh_SI h rfl (by decide) hi (Nat.le_of_ble_eq_true rfl)
theorem s10_v40 {S : pS} {a : Nat} (h : Sh S a sp10) (i : Nat) (v : Int32) : cI ((wI S (a + 28) i v).2 (a + 28)) = pu (cI (S.2 (a + 28))) i v := sh_vI h rfl (by decide) (vnar_int v) i
theorem s10_g41 {S : pS} {a : Nat} (h : Sh S a sp10) : oGI S a 10 41 = some (fI (S.2 a) 41) := sh_GI h rfl rfl
theorem s10_p41 {S : pS} {a : Nat} (h : Sh S a sp10) (v : Int32) : oPI S a 10 41 v = some (wF S a 41 (.int v)) := sh_P h rfl _
theorem s10_q41 {S : pS} {a : Nat} (h : Sh S a sp10) {v : Int32} (hv : v = 0 ∨ v = 1) : oPZ S a 10 41 v = some (wF S a 41 (.int v)) := by unfold oPZ; rw [if_pos hv]; exact sh_P h rfl _
theorem s10_k41 {S : pS} {a b : Nat} (h : Sh S a sp10) (hb : Sh S b sp10) (v : Int32) : Sh (wF S b 41 (.int v)) a sp10 := sh_kI h hb (by decide) rfl rfl v
theorem s10_v41 {S : pS} {a : Nat} (h : Sh S a sp10) (v : Int32) : fI ((wF S a 41 (.int v)).2 a) 41 = v := sh_vFI h rfl v
theorem s10_g42 {S : pS} {a : Nat} (h : Sh S a sp10) : oGA S a 10 42 = some (a + 29) := sh_GA h rfl rfl
theorem s10_r42 {S : pS} {a : Nat} (h : Sh S a sp10) {i : Nat} (hi : i < 62) : oAI S (a + 29) .int (nI i) = some (cI (S.2 (a + 29)) i) := sh_AI h rfl (by decide) hi (Nat.le_of_ble_eq_true rfl)
theorem s10_w42 {S : pS} {a : Nat} (h : Sh S a sp10) {i : Nat} (hi : i < 62) (v : Int32) : oSI S (a + 29) .int (nI i) v = some (wI S (a + 29) i v) := sh_SI h rfl (by decide) hi (Nat.le_of_ble_eq_true rfl)
theorem s10_v42 {S : pS} {a : Nat} (h : Sh S a sp10) (i : Nat) (v : Int32) : cI ((wI S (a + 29) i v).2 (a + 29)) = pu (cI (S.2 (a + 29))) i v := sh_vI h rfl (by decide) (vnar_int v) i
theorem s10_g43 {S : pS} {a : Nat} (h : Sh S a sp10) : oGA S a 10 43 = some (a + 30) := sh_GA h rfl rfl
theorem s10_r43 {S : pS} {a : Nat} (h : Sh S a sp10) {i : Nat} (hi : i < 62) : oAI S (a + 30) .int (nI i) = some (cI (S.2 (a + 30)) i) := sh_AI h rfl (by decide) hi (Nat.le_of_ble_eq_true rfl)
theorem s10_w43 {S : pS} {a : Nat} (h : Sh S a sp10) {i : Nat} (hi : i < 62) (v : Int32) : oSI S (a + 30) .int (nI i) v = some (wI S (a + 30) i v) := sh_SI h rfl (by decide) hi (Nat.le_of_ble_eq_true rfl)
theorem s10_v43 {S : pS} {a : Nat} (h : Sh S a sp10) (i : Nat) (v : Int32) : cI ((wI S (a + 30) i v).2 (a + 30)) = pu (cI (S.2 (a + 30))) i v := sh_vI h rfl (by decide) (vnar_int v) i
theorem s10_g44 {S : pS} {a : Nat} (h : Sh S a sp10) : oGA S a 10 44 = some (a + 31) := sh_GA h rfl rfl
theorem s10_r44 {S : pS} {a : Nat} (h : Sh S a sp10) {i : Nat} (hi : i < 62) : oAI S (a + 31) .int (nI i) = some (cI (S.2 (a + 31)) i) := sh_AI h rfl (by decide) hi (Nat.le_of_ble_eq_true rfl)
theorem s10_w44 {S : pS} {a : Nat} (h : Sh S a sp10) {i : Nat} (hi : i < 62) (v : Int32) : oSI S (a + 31) .int (nI i) v = some (wI S (a + 31) i v) := sh_SI h rfl (by decide) hi (Nat.le_of_ble_eq_true rfl)
theorem s10_v44 {S : pS} {a : Nat} (h : Sh S a sp10) (i : Nat) (v : Int32) : cI ((wI S (a + 31) i v).2 (a + 31)) = pu (cI (S.2 (a + 31))) i v := sh_vI h rfl (by decide) (vnar_int v) i
theorem s10_g45 {S : pS} {a : Nat} (h : Sh S a sp10) : oGA S a 10 45 = some (a + 32) := sh_GA h rfl rfl
theorem s10_r45 {S : pS} {a : Nat} (h : Sh S a sp10) {i : Nat} (hi : i < 700) : oAI S (a + 32) .int (nI i) = some (cI (S.2 (a + 32)) i) := sh_AI h rfl (by decide) hi (Nat.le_of_ble_eq_true rfl)
theorem s10_w45 {S : pS} {a : Nat} (h : Sh S a sp10) {i : Nat} (hi : i < 700) (v : Int32) : oSI S (a + 32) .int (nI i) v = some (wI S (a + 32) i v) := sh_SI h rfl (by decide) hi (Nat.le_of_ble_eq_true rfl)
theorem s10_v45 {S : pS} {a : Nat} (h : Sh S a sp10) (i : Nat) (v : Int32) : cI ((wI S (a + 32) i v).2 (a + 32)) = pu (cI (S.2 (a + 32))) i v := sh_vI h rfl (by decide) (vnar_int v) i
theorem s10_g46 {S : pS} {a : Nat} (h : Sh S a sp10) : oGA S a 10 46 = some (a + 33) := sh_GA h rfl rfl
theorem s10_r46 {S : pS} {a : Nat} (h : Sh S a sp10) {i : Nat} (hi : i < 41) : oAI S (a + 33) .int (nI i) = some (cI (S.2 (a + 33)) i) := sh_AI h rfl (by decide) hi (Nat.le_of_ble_eq_true rfl)
theorem s10_w46 {S : pS} {a : Nat} (h : Sh S a sp10) {i : Nat} (hi : i < 41) (v : Int32) : oSI S (a + 33) .int (nI i) v = some (wI S (a + 33) i v) := sh_SI h rfl (by decide) hi (Nat.le_of_ble_eq_true rfl)
theorem s10_v46 {S : pS} {a : Nat} (h : Sh S a sp10) (i : Nat) (v : Int32) : cI ((wI S (a + 33) i v).2 (a + 33)) = pu (cI (S.2 (a + 33))) i v := sh_vI h rfl (by decide) (vnar_int v) i
theorem s10_g47 {S : pS} {a : Nat} (h : Sh S a sp10) : oGA S a 10 47 = some (a + 34) := sh_GA h rfl rfl
theorem s10_r47 {S : pS} {a : Nat} (h : Sh S a sp10) {i : Nat} (hi : i < 41) : oAI S (a + 34) .int (nI i) = some (cI (S.2 (a + 34)) i) := sh_AI h rfl (by decide) hi (Nat.le_of_ble_eq_true rfl)
theorem s10_w47 {S : pS} {a : Nat} (h : Sh S a sp10) {i : Nat} (hi : i < 41) (v : Int32) : oSI S (a + 34) .int (nI i) v = some (wI S (a + 34) i v) := sh_SI h rfl (by decide) hi (Nat.le_of_ble_eq_true rfl)
theorem s10_v47 {S : pS} {a : Nat} (h : Sh S a sp10) (i : Nat) (v : Int32) : cI ((wI S (a + 34) i v).2 (a + 34)) = pu (cI (S.2 (a + 34))) i v := sh_vI h rfl (by decide) (vnar_int v) i
theorem s10_g48 {S : pS} {a : Nat} (h : Sh S a sp10) : oGA S a 10 48 = some (a + 35) := sh_GA h rfl rfl
theorem s10_r48 {S : pS} {a : Nat} (h : Sh S a sp10) {i : Nat} (hi : i < 41) : oAI S (a + 35) .int (nI i) = some (cI (S.2 (a + 35)) i) := sh_AI h rfl (by decide) hi (Nat.le_of_ble_eq_true rfl)
theorem s10_w48 {S : pS} {a : Nat} (h : Sh S a sp10) {i : Nat} (hi : i < 41) (v : Int32) : oSI S (a + 35) .int (nI i) v = some (wI S (a + 35) i v) := sh_SI h rfl (by decide) hi (Nat.le_of_ble_eq_true rfl)
theorem s10_v48 {S : pS} {a : Nat} (h : Sh S a sp10) (i : Nat) (v : Int32) : cI ((wI S (a + 35) i v).2 (a + 35)) = pu (cI (S.2 (a + 35))) i v := sh_vI h rfl (by decide) (vnar_int v) i
theorem s10_g49 {S : pS} {a : Nat} (h : Sh S a sp10) : oGA S a 10 49 = some (a + 36) := sh_GA h rfl rfl
theorem s10_r49 {S : pS} {a : Nat} (h : Sh S a sp10) {i : Nat} (hi : i < 41) : oAI S (a + 36) .int (nI i) = some (cI (S.2 (a + 36)) i) := sh_AI h rfl (by decide) hi (Nat.le_of_ble_eq_true rfl)
theorem s10_w49 {S : pS} {a : Nat} (h : Sh S a sp10) {i : Nat} (hi : i < 41) (v : Int32) : oSI S (a + 36) .int (nI i) v = some (wI S (a + 36) i v) := sh_SI h rfl (by decide) hi (Nat.le_of_ble_eq_true rfl)
theorem s10_v49 {S : pS} {a : Nat} (h : Sh S a sp10) (i : Nat) (v : Int32) : cI ((wI S (a + 36) i v).2 (a + 36)) = pu (cI (S.2 (a + 36))) i v := sh_vI h rfl (by decide) (vnar_int v) i
theorem s10_g50 {S : pS} {a : Nat} (h : Sh S a sp10) : oGA S a 10 50 = some (a + 37) := sh_GA h rfl rfl
theorem s10_r50 {S : pS} {a : Nat} (h : Sh S a sp10) {i : Nat} (hi : i < 41) : oAI S (a + 37) .int (nI i) = some (cI (S.2 (a + 37)) i) := sh_AI h rfl (by decide) hi (Nat.le_of_ble_eq_true rfl)
theorem s10_w50 {S : pS} {a : Nat} (h : Sh S a sp10) {i : Nat} (hi : i < 41) (v : Int32) : oSI S (a + 37) .int (nI i) v = some (wI S (a + 37) i v) := sh_SI h rfl (by decide) hi (Nat.le_of_ble_eq_true rfl)
theorem s10_v50 {S : pS} {a : Nat} (h : Sh S a sp10) (i : Nat) (v : Int32) : cI ((wI S (a + 37) i v).2 (a + 37)) = pu (cI (S.2 (a + 37))) i v := sh_vI h rfl (by decide) (vnar_int v) i
theorem s10_g51 {S : pS} {a : Nat} (h : Sh S a sp10) : oGA S a 10 51 = some (a + 38) := sh_GA h rfl rfl
theorem s10_r51 {S : pS} {a : Nat} (h : Sh S a sp10) {i : Nat} (hi : i < 41) : oAI S (a + 38) .int (nI i) = some (cI (S.2 (a + 38)) i) := sh_AI h rfl (by decide) hi (Nat.le_of_ble_eq_true rfl)
theorem s10_w51 {S : pS} {a : Nat} (h : Sh S a sp10) {i : Nat} (hi : i < 41) (v : Int32) : oSI S (a + 38) .int (nI i) v = some (wI S (a + 38) i v) := sh_SI h rfl (by decide) hi (Nat.le_of_ble_eq_true rfl)
theorem s10_v51 {S : pS} {a : Nat} (h : Sh S a sp10) (i : Nat) (v : Int32) : cI ((wI S (a + 38) i v).2 (a + 38)) = pu (cI (S.2 (a + 38))) i v := sh_vI h rfl (by decide) (vnar_int v) i
theorem s10_g52 {S : pS} {a : Nat} (h : Sh S a sp10) : oGA S a 10 52 = some (a + 39) := sh_GA h rfl rfl
theorem s10_r52 {S : pS} {a : Nat} (h : Sh S a sp10) {i : Nat} (hi : i < 41) : oAI S (a + 39) .int (nI i) = some (cI (S.2 (a + 39)) i) := sh_AI h rfl (by decide) hi (Nat.le_of_ble_eq_true rfl)
theorem s10_w52 {S : pS} {a : Nat} (h : Sh S a sp10) {i : Nat} (hi : i < 41) (v : Int32) : oSI S (a + 39) .int (nI i) v = some (wI S (a + 39) i v) := sh_SI h rfl (by decide) hi (Nat.le_of_ble_eq_true rfl)
theorem s10_v52 {S : pS} {a : Nat} (h : Sh S a sp10) (i : Nat) (v : Int32) : cI ((wI S (a + 39) i v).2 (a + 39)) = pu (cI (S.2 (a + 39))) i v := sh_vI h rfl (by decide) (vnar_int v) i
theorem s10_g53 {S : pS} {a : Nat} (h : Sh S a sp10) : oGA S a 10 53 = some (a + 40) := sh_GA h rfl rfl
theorem s10_r53 {S : pS} {a : Nat} (h : Sh S a sp10) {i : Nat} (hi : i < 41) : oAI S (a + 40) .int (nI i) = some (cI (S.2 (a + 40)) i) := sh_AI h rfl (by decide) hi (Nat.le_of_ble_eq_true rfl)
theorem s10_w53 {S : pS} {a : Nat} (h : Sh S a sp10) {i : Nat} (hi : i < 41) (v : Int32) : oSI S (a + 40) .int (nI i) v = some (wI S (a + 40) i v) := sh_SI h rfl (by decide) hi (Nat.le_of_ble_eq_true rfl)
theorem s10_v53 {S : pS} {a : Nat} (h : Sh S a sp10) (i : Nat) (v : Int32) : cI ((wI S (a + 40) i v).2 (a + 40)) = pu (cI (S.2 (a + 40))) i v := sh_vI h rfl (by decide) (vnar_int v) i
theorem s10_g54 {S : pS} {a : Nat} (h : Sh S a sp10) : oGI S a 10 54 = some (fI (S.2 a) 54) := sh_GI h rfl rfl
theorem s10_p54 {S : pS} {a : Nat} (h : Sh S a sp10) (v : Int32) : oPI S a 10 54 v = some (wF S a 54 (.int v)) := sh_P h rfl _
theorem s10_q54 {S : pS} {a : Nat} (h : Sh S a sp10) {v : Int32} (hv : v = 0 ∨ v = 1) : oPZ S a 10 54 v = some (wF S a 54 (.int v)) := by unfold oPZ; rw [if_pos hv]; exact sh_P h rfl _
theorem s10_k54 {S : pS} {a b : Nat} (h : Sh S a sp10) (hb : Sh S b sp10) (v : Int32) : Sh (wF S b 54 (.int v)) a sp10 := sh_kI h hb (by decide) rfl rfl v
theorem s10_v54 {S : pS} {a : Nat} (h : Sh S a sp10) (v : Int32) : fI ((wF S a 54 (.int v)).2 a) 54 = v := sh_vFI h rfl v
