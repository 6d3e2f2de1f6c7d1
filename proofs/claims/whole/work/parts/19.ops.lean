/-! operations on states (n, h): none where the machine would not go on -/
abbrev pS : Type := Nat × pF
theorem obind {α β : Type} {o : Option α} {f : α → Option β} {r : β} (h : o.bind f = some r) : ∃ x, o = some x ∧ f x = some r := by
  cases o with
  | none => cases h
  | some x => exact ⟨x, rfl, h⟩
/-- loops -/
def iter {α β : Type} (f : α → Option (α ⊕ β)) : Nat → α → Option β
  | 0, _ => none
  | k + 1, a => (f a).bind fun r => match r with
    | .inl a' => iter f k a'
    | .inr b => some b
/-- steps enough for any loop -/
def fu : Nat := 1000000
def oF (S : pS) (a ci : Nat) : Option (Nat → Value) := if a < S.1 then (match S.2 a with
  | .inr (c, f) => if c = ci then some f else none
  | .inl _ => none) else none
theorem oF_some {S : pS} {a ci : Nat} {f : Nat → Value} (h : oF S a ci = some f) : a < S.1 ∧ S.2 a = .inr (ci, f) := by
  unfold oF at h
  by_cases c : a < S.1
  · rw [if_pos c] at h
    refine ⟨c, ?_⟩
    cases e : S.2 a with
    | inl q => rw [e] at h; cases h
    | inr q =>
      obtain ⟨c', f'⟩ := q
      rw [e] at h
      by_cases c2 : c' = ci
      · subst c2
        simp at h
        rw [h]
      · simp [c2] at h
  · rw [if_neg c] at h; cases h
theorem oF_mk {S : pS} {a ci : Nat} {f : Nat → Value} (h1 : a < S.1) (h2 : S.2 a = .inr (ci, f)) : oF S a ci = some f := by
  simp [oF, h1, h2]
def oGI (S : pS) (a ci k : Nat) : Option Int32 := (oF S a ci).bind fun f => match f k with
  | .int x => some x
  | _ => none
def oGJ (S : pS) (a ci k : Nat) : Option Int64 := (oF S a ci).bind fun f => match f k with
  | .long x => some x
  | _ => none
def oGA (S : pS) (a ci k : Nat) : Option Nat := (oF S a ci).bind fun f => match f k with
  | .ref x => some x
  | _ => none
def oGN (S : pS) (a ci k : Nat) : Option (Option Nat) := (oF S a ci).bind fun f => match f k with
  | .ref x => some (some x)
  | .null => some none
  | _ => none
def oP (S : pS) (a ci k : Nat) (v : Value) : Option pS := (oF S a ci).bind fun f => some (S.1, pu S.2 a (.inr (ci, pu f k v)))
def oPI (S : pS) (a ci k : Nat) (x : Int32) : Option pS := oP S a ci k (.int x)
def oPZ (S : pS) (a ci k : Nat) (x : Int32) : Option pS := if x = 0 ∨ x = 1 then oP S a ci k (.int x) else none
def oPJ (S : pS) (a ci k : Nat) (x : Int64) : Option pS := oP S a ci k (.long x)
def oPA (S : pS) (a ci k : Nat) (x : Nat) : Option pS := oP S a ci k (.ref x)
def oPN (S : pS) (a ci k : Nat) (x : Option Nat) : Option pS := oP S a ci k (va_rf x)
def oNew (S : pS) (e : pE) : pS := (S.1 + 1, pu S.2 S.1 e)
/-- the value fits a boolean, a char -/
def oZ (x : Int32) : Option Int32 := if narrow .boolean (.int x) = .int x then some x else none
def oC (x : Int32) : Option Int32 := if narrow .char (.int x) = .int x then some x else none

def oArI (S : pS) (a : Nat) (ty : FieldType) : Option (Nat × (Nat → Int32)) := if a < S.1 then (match S.2 a with
  | .inl (t, N, .inl f) => if t = ty then some (N, f) else none
  | _ => none) else none
theorem oArI_mk {S : pS} {a : Nat} {ty : FieldType} {N : Nat} {f : Nat → Int32} (h1 : a < S.1) (h2 : S.2 a = .inl (ty, N, .inl f)) : oArI S a ty = some (N, f) := by
  simp [oArI, h1, h2]
theorem oArI_some {S : pS} {a : Nat} {ty : FieldType} {q : Nat × (Nat → Int32)} (h : oArI S a ty = some q) : a < S.1 ∧ ∃ (N : Nat) (f : Nat → Int32), q = (N, f) ∧ S.2 a = .inl (ty, N, .inl f) := by
  unfold oArI at h
  by_cases c : a < S.1
  · rw [if_pos c] at h
    refine ⟨c, ?_⟩
    split at h
    · rename_i t N f e
      by_cases c2 : t = ty
      · subst c2
        simp at h
        exact ⟨N, f, h.symm, e⟩
      · simp [c2] at h
    · cases h
  · rw [if_neg c] at h; cases h
def oAI (S : pS) (a : Nat) (ty : FieldType) (i : Int32) : Option (Int32) := (oArI S a ty).bind fun q => if i < 0 ∨ q.1 ≤ i.toNatClampNeg then none else some (q.2 i.toNatClampNeg)
def oSI (S : pS) (a : Nat) (ty : FieldType) (i : Int32) (x : Int32) : Option pS := (oArI S a ty).bind fun q => if i < 0 ∨ q.1 ≤ i.toNatClampNeg then none else some (S.1, pu S.2 a (.inl (ty, q.1, .inl (pu q.2 i.toNatClampNeg (vp_nar ty x)))))
theorem oAI_some {S : pS} {a : Nat} {ty : FieldType} {i : Int32} {x : Int32} (h : oAI S a ty i = some x) : ∃ (N : Nat) (f : Nat → Int32), a < S.1 ∧ S.2 a = .inl (ty, N, .inl f) ∧ vp_in i N ∧ x = f i.toNatClampNeg := by
  obtain ⟨q, e, h⟩ := obind h
  obtain ⟨e1, N, f, rfl, e2⟩ := oArI_some e
  by_cases c : i < 0 ∨ N ≤ i.toNatClampNeg
  · simp [c] at h
  · have h' : some (f i.toNatClampNeg) = some x := by simpa [c] using h
    exact ⟨N, f, e1, e2, c, (Option.some.inj h').symm⟩
theorem oSI_some {S S' : pS} {a : Nat} {ty : FieldType} {i : Int32} {x : Int32} (h : oSI S a ty i x = some S') : ∃ (N : Nat) (f : Nat → Int32), a < S.1 ∧ S.2 a = .inl (ty, N, .inl f) ∧ vp_in i N ∧ S' = (S.1, pu S.2 a (.inl (ty, N, .inl (pu f i.toNatClampNeg (vp_nar ty x))))) := by
  obtain ⟨q, e, h⟩ := obind h
  obtain ⟨e1, N, f, rfl, e2⟩ := oArI_some e
  by_cases c : i < 0 ∨ N ≤ i.toNatClampNeg
  · simp [c] at h
  · rw [if_neg c] at h
    exact ⟨N, f, e1, e2, c, (Option.some.inj h).symm⟩
def oArJ (S : pS) (a : Nat) (ty : FieldType) : Option (Nat × (Nat → Int64)) := if a < S.1 then (match S.2 a with
  | .inl (t, N, .inr (.inl f)) => if t = ty then some (N, f) else none
  | _ => none) else none
theorem oArJ_mk {S : pS} {a : Nat} {ty : FieldType} {N : Nat} {f : Nat → Int64} (h1 : a < S.1) (h2 : S.2 a = .inl (ty, N, .inr (.inl f))) : oArJ S a ty = some (N, f) := by
  simp [oArJ, h1, h2]
theorem oArJ_some {S : pS} {a : Nat} {ty : FieldType} {q : Nat × (Nat → Int64)} (h : oArJ S a ty = some q) : a < S.1 ∧ ∃ (N : Nat) (f : Nat → Int64), q = (N, f) ∧ S.2 a = .inl (ty, N, .inr (.inl f)) := by
  unfold oArJ at h
  by_cases c : a < S.1
  · rw [if_pos c] at h
    refine ⟨c, ?_⟩
    split at h
    · rename_i t N f e
      by_cases c2 : t = ty
      · subst c2
        simp at h
        exact ⟨N, f, h.symm, e⟩
      · simp [c2] at h
    · cases h
  · rw [if_neg c] at h; cases h
def oAJ (S : pS) (a : Nat) (ty : FieldType) (i : Int32) : Option (Int64) := (oArJ S a ty).bind fun q => if i < 0 ∨ q.1 ≤ i.toNatClampNeg then none else some (q.2 i.toNatClampNeg)
def oSJ (S : pS) (a : Nat) (ty : FieldType) (i : Int32) (x : Int64) : Option pS := (oArJ S a ty).bind fun q => if i < 0 ∨ q.1 ≤ i.toNatClampNeg then none else some (S.1, pu S.2 a (.inl (ty, q.1, .inr (.inl (pu q.2 i.toNatClampNeg (x))))))
theorem oAJ_some {S : pS} {a : Nat} {ty : FieldType} {i : Int32} {x : Int64} (h : oAJ S a ty i = some x) : ∃ (N : Nat) (f : Nat → Int64), a < S.1 ∧ S.2 a = .inl (ty, N, .inr (.inl f)) ∧ vp_in i N ∧ x = f i.toNatClampNeg := by
  obtain ⟨q, e, h⟩ := obind h
  obtain ⟨e1, N, f, rfl, e2⟩ := oArJ_some e
  by_cases c : i < 0 ∨ N ≤ i.toNatClampNeg
  · simp [c] at h
  · have h' : some (f i.toNatClampNeg) = some x := by simpa [c] using h
    exact ⟨N, f, e1, e2, c, (Option.some.inj h').symm⟩
theorem oSJ_some {S S' : pS} {a : Nat} {ty : FieldType} {i : Int32} {x : Int64} (h : oSJ S a ty i x = some S') : ∃ (N : Nat) (f : Nat → Int64), a < S.1 ∧ S.2 a = .inl (ty, N, .inr (.inl f)) ∧ vp_in i N ∧ S' = (S.1, pu S.2 a (.inl (ty, N, .inr (.inl (pu f i.toNatClampNeg (x)))))) := by
  obtain ⟨q, e, h⟩ := obind h
  obtain ⟨e1, N, f, rfl, e2⟩ := oArJ_some e
  by_cases c : i < 0 ∨ N ≤ i.toNatClampNeg
  · simp [c] at h
  · rw [if_neg c] at h
    exact ⟨N, f, e1, e2, c, (Option.some.inj h).symm⟩
def oArD (S : pS) (a : Nat) (ty : FieldType) : Option (Nat × (Nat → UInt64)) := if a < S.1 then (match S.2 a with
  | .inl (t, N, .inr (.inr (.inr (.inl f)))) => if t = ty then some (N, f) else none
  | _ => none) else none
theorem oArD_mk {S : pS} {a : Nat} {ty : FieldType} {N : Nat} {f : Nat → UInt64} (h1 : a < S.1) (h2 : S.2 a = .inl (ty, N, .inr (.inr (.inr (.inl f))))) : oArD S a ty = some (N, f) := by
  simp [oArD, h1, h2]
theorem oArD_some {S : pS} {a : Nat} {ty : FieldType} {q : Nat × (Nat → UInt64)} (h : oArD S a ty = some q) : a < S.1 ∧ ∃ (N : Nat) (f : Nat → UInt64), q = (N, f) ∧ S.2 a = .inl (ty, N, .inr (.inr (.inr (.inl f)))) := by
  unfold oArD at h
  by_cases c : a < S.1
  · rw [if_pos c] at h
    refine ⟨c, ?_⟩
    split at h
    · rename_i t N f e
      by_cases c2 : t = ty
      · subst c2
        simp at h
        exact ⟨N, f, h.symm, e⟩
      · simp [c2] at h
    · cases h
  · rw [if_neg c] at h; cases h
def oAD (S : pS) (a : Nat) (ty : FieldType) (i : Int32) : Option (UInt64) := (oArD S a ty).bind fun q => if i < 0 ∨ q.1 ≤ i.toNatClampNeg then none else some (q.2 i.toNatClampNeg)
def oSD (S : pS) (a : Nat) (ty : FieldType) (i : Int32) (x : UInt64) : Option pS := (oArD S a ty).bind fun q => if i < 0 ∨ q.1 ≤ i.toNatClampNeg then none else some (S.1, pu S.2 a (.inl (ty, q.1, .inr (.inr (.inr (.inl (pu q.2 i.toNatClampNeg (x))))))))
theorem oAD_some {S : pS} {a : Nat} {ty : FieldType} {i : Int32} {x : UInt64} (h : oAD S a ty i = some x) : ∃ (N : Nat) (f : Nat → UInt64), a < S.1 ∧ S.2 a = .inl (ty, N, .inr (.inr (.inr (.inl f)))) ∧ vp_in i N ∧ x = f i.toNatClampNeg := by
  obtain ⟨q, e, h⟩ := obind h
  obtain ⟨e1, N, f, rfl, e2⟩ := oArD_some e
  by_cases c : i < 0 ∨ N ≤ i.toNatClampNeg
  · simp [c] at h
  · have h' : some (f i.toNatClampNeg) = some x := by simpa [c] using h
    exact ⟨N, f, e1, e2, c, (Option.some.inj h').symm⟩
theorem oSD_some {S S' : pS} {a : Nat} {ty : FieldType} {i : Int32} {x : UInt64} (h : oSD S a ty i x = some S') : ∃ (N : Nat) (f : Nat → UInt64), a < S.1 ∧ S.2 a = .inl (ty, N, .inr (.inr (.inr (.inl f)))) ∧ vp_in i N ∧ S' = (S.1, pu S.2 a (.inl (ty, N, .inr (.inr (.inr (.inl (pu f i.toNatClampNeg (x)))))))) := by
  obtain ⟨q, e, h⟩ := obind h
  obtain ⟨e1, N, f, rfl, e2⟩ := oArD_some e
  by_cases c : i < 0 ∨ N ≤ i.toNatClampNeg
  · simp [c] at h
  · rw [if_neg c] at h
    exact ⟨N, f, e1, e2, c, (Option.some.inj h).symm⟩
def oArR (S : pS) (a : Nat) (ty : FieldType) : Option (Nat × (Nat → Option Nat)) := if a < S.1 then (match S.2 a with
  | .inl (t, N, .inr (.inr (.inr (.inr f)))) => if t = ty then some (N, f) else none
  | _ => none) else none
theorem oArR_mk {S : pS} {a : Nat} {ty : FieldType} {N : Nat} {f : Nat → Option Nat} (h1 : a < S.1) (h2 : S.2 a = .inl (ty, N, .inr (.inr (.inr (.inr f))))) : oArR S a ty = some (N, f) := by
  simp [oArR, h1, h2]
theorem oArR_some {S : pS} {a : Nat} {ty : FieldType} {q : Nat × (Nat → Option Nat)} (h : oArR S a ty = some q) : a < S.1 ∧ ∃ (N : Nat) (f : Nat → Option Nat), q = (N, f) ∧ S.2 a = .inl (ty, N, .inr (.inr (.inr (.inr f)))) := by
  unfold oArR at h
  by_cases c : a < S.1
  · rw [if_pos c] at h
    refine ⟨c, ?_⟩
    split at h
    · rename_i t N f e
      by_cases c2 : t = ty
      · subst c2
        simp at h
        exact ⟨N, f, h.symm, e⟩
      · simp [c2] at h
    · cases h
  · rw [if_neg c] at h; cases h
def oAR (S : pS) (a : Nat) (ty : FieldType) (i : Int32) : Option (Option Nat) := (oArR S a ty).bind fun q => if i < 0 ∨ q.1 ≤ i.toNatClampNeg then none else some (q.2 i.toNatClampNeg)
def oSR (S : pS) (a : Nat) (ty : FieldType) (i : Int32) (x : Option Nat) : Option pS := (oArR S a ty).bind fun q => if i < 0 ∨ q.1 ≤ i.toNatClampNeg then none else some (S.1, pu S.2 a (.inl (ty, q.1, .inr (.inr (.inr (.inr (pu q.2 i.toNatClampNeg (x))))))))
theorem oAR_some {S : pS} {a : Nat} {ty : FieldType} {i : Int32} {x : Option Nat} (h : oAR S a ty i = some x) : ∃ (N : Nat) (f : Nat → Option Nat), a < S.1 ∧ S.2 a = .inl (ty, N, .inr (.inr (.inr (.inr f)))) ∧ vp_in i N ∧ x = f i.toNatClampNeg := by
  obtain ⟨q, e, h⟩ := obind h
  obtain ⟨e1, N, f, rfl, e2⟩ := oArR_some e
  by_cases c : i < 0 ∨ N ≤ i.toNatClampNeg
  · simp [c] at h
  · have h' : some (f i.toNatClampNeg) = some x := by simpa [c] using h
    exact ⟨N, f, e1, e2, c, (Option.some.inj h').symm⟩
theorem oSR_some {S S' : pS} {a : Nat} {ty : FieldType} {i : Int32} {x : Option Nat} (h : oSR S a ty i x = some S') : ∃ (N : Nat) (f : Nat → Option Nat), a < S.1 ∧ S.2 a = .inl (ty, N, .inr (.inr (.inr (.inr f)))) ∧ vp_in i N ∧ S' = (S.1, pu S.2 a (.inl (ty, N, .inr (.inr (.inr (.inr (pu f i.toNatClampNeg (x)))))))) := by
  obtain ⟨q, e, h⟩ := obind h
  obtain ⟨e1, N, f, rfl, e2⟩ := oArR_some e
  by_cases c : i < 0 ∨ N ≤ i.toNatClampNeg
  · simp [c] at h
  · rw [if_neg c] at h
    exact ⟨N, f, e1, e2, c, (Option.some.inj h).symm⟩
theorem oG_ex {S : pS} {a ci k : Nat} {β : Type} {g : Value → Option β} {x : β} (h : ((oF S a ci).bind fun f => g (f k)) = some x) : ∃ f, a < S.1 ∧ S.2 a = .inr (ci, f) ∧ g (f k) = some x := by
  obtain ⟨f, e, h⟩ := obind h
  obtain ⟨e1, e2⟩ := oF_some e
  exact ⟨f, e1, e2, h⟩
theorem oGI_some {S : pS} {a ci k : Nat} {x : Int32} (h : oGI S a ci k = some x) : ∃ f, a < S.1 ∧ S.2 a = .inr (ci, f) ∧ f k = .int x := by
  obtain ⟨f, e1, e2, h⟩ := oG_ex (g := fun v => match v with
    | .int x => some x
    | _ => none) h
  refine ⟨f, e1, e2, ?_⟩
  cases e : f k <;> simp [e] at h
  rw [h]
theorem oGJ_some {S : pS} {a ci k : Nat} {x : Int64} (h : oGJ S a ci k = some x) : ∃ f, a < S.1 ∧ S.2 a = .inr (ci, f) ∧ f k = .long x := by
  obtain ⟨f, e1, e2, h⟩ := oG_ex (g := fun v => match v with
    | .long x => some x
    | _ => none) h
  refine ⟨f, e1, e2, ?_⟩
  cases e : f k <;> simp [e] at h
  rw [h]
theorem oGA_some {S : pS} {a ci k : Nat} {x : Nat} (h : oGA S a ci k = some x) : ∃ f, a < S.1 ∧ S.2 a = .inr (ci, f) ∧ f k = .ref x := by
  obtain ⟨f, e1, e2, h⟩ := oG_ex (g := fun v => match v with
    | .ref x => some x
    | _ => none) h
  refine ⟨f, e1, e2, ?_⟩
  cases e : f k <;> simp [e] at h
  rw [h]
theorem oGN_some {S : pS} {a ci k : Nat} {x : Option Nat} (h : oGN S a ci k = some x) : ∃ f, a < S.1 ∧ S.2 a = .inr (ci, f) ∧ f k = va_rf x := by
  obtain ⟨f, e1, e2, h⟩ := oG_ex (g := fun v => match v with
    | .ref x => some (some x)
    | .null => some none
    | _ => none) h
  refine ⟨f, e1, e2, ?_⟩
  cases e : f k <;> simp [e] at h <;> subst h <;> rfl
theorem oP_some {S S' : pS} {a ci k : Nat} {v : Value} (h : oP S a ci k v = some S') : ∃ f, a < S.1 ∧ S.2 a = .inr (ci, f) ∧ S' = (S.1, pu S.2 a (.inr (ci, pu f k v))) := by
  obtain ⟨f, e, h⟩ := obind h
  obtain ⟨e1, e2⟩ := oF_some e
  exact ⟨f, e1, e2, (Option.some.inj h).symm⟩
theorem oPZ_some {S S' : pS} {a ci k : Nat} {x : Int32} (h : oPZ S a ci k x = some S') : (x = 0 ∨ x = 1) ∧ oP S a ci k (.int x) = some S' := by
  unfold oPZ at h
  by_cases c : x = 0 ∨ x = 1
  · rw [if_pos c] at h; exact ⟨c, h⟩
  · rw [if_neg c] at h; cases h
theorem oZ_some {x y : Int32} (h : oZ x = some y) : y = x ∧ narrow .boolean (.int x) = .int x := by
  unfold oZ at h
  by_cases c : narrow .boolean (.int x) = .int x
  · rw [if_pos c] at h; exact ⟨(Option.some.inj h).symm, c⟩
  · rw [if_neg c] at h; cases h
theorem oC_some {x y : Int32} (h : oC x = some y) : y = x ∧ narrow .char (.int x) = .int x := by
  unfold oC at h
  by_cases c : narrow .char (.int x) = .int x
  · rw [if_pos c] at h; exact ⟨(Option.some.inj h).symm, c⟩
  · rw [if_neg c] at h; cases h
section RULES
variable {X : pX} {M : pM} {pc : Nat} {ls : List (Option Value)} {st : List Value} {S : pS} {Q : pO → Nat → pF → Prop} {mc ms : Nat}
theorem q_getI {idx ci k a : Nat} {x : Int32} (hd : decode M.2.1 pc = .ok (.getfield idx, 3)) (hf : gFL M.1.cls idx ci k) (e : oGI S a ci k = some x) (kk : gW X M (pc + 3) ls (.int x :: st) S.1 S.2 Q mc ms) : gW X M pc ls (.ref a :: st) S.1 S.2 Q mc ms := by
  obtain ⟨f, e1, e2, e3⟩ := oGI_some e
  refine r_get ci k hd hf e1 e2 ?_
  rw [e3]
  exact kk
theorem q_getJ {idx ci k a : Nat} {x : Int64} (hd : decode M.2.1 pc = .ok (.getfield idx, 3)) (hf : gFL M.1.cls idx ci k) (e : oGJ S a ci k = some x) (kk : gW X M (pc + 3) ls (.long x :: st) S.1 S.2 Q mc ms) : gW X M pc ls (.ref a :: st) S.1 S.2 Q mc ms := by
  obtain ⟨f, e1, e2, e3⟩ := oGJ_some e
  refine r_get ci k hd hf e1 e2 ?_
  rw [e3]
  exact kk
theorem q_getA {idx ci k a : Nat} {x : Nat} (hd : decode M.2.1 pc = .ok (.getfield idx, 3)) (hf : gFL M.1.cls idx ci k) (e : oGA S a ci k = some x) (kk : gW X M (pc + 3) ls (.ref x :: st) S.1 S.2 Q mc ms) : gW X M pc ls (.ref a :: st) S.1 S.2 Q mc ms := by
  obtain ⟨f, e1, e2, e3⟩ := oGA_some e
  refine r_get ci k hd hf e1 e2 ?_
  rw [e3]
  exact kk
theorem q_getN {idx ci k a : Nat} {x : Option Nat} (hd : decode M.2.1 pc = .ok (.getfield idx, 3)) (hf : gFL M.1.cls idx ci k) (e : oGN S a ci k = some x) (kk : gW X M (pc + 3) ls (va_rf x :: st) S.1 S.2 Q mc ms) : gW X M pc ls (.ref a :: st) S.1 S.2 Q mc ms := by
  obtain ⟨f, e1, e2, e3⟩ := oGN_some e
  refine r_get ci k hd hf e1 e2 ?_
  rw [e3]
  exact kk
theorem q_putI {idx ci k a : Nat} {ty : FieldType} {x : Int32} {S' : pS} (hd : decode M.2.1 pc = .ok (.putfield idx, 3)) (hf : gFP M.1.cls idx ci k ty false) (ht : ty = .int) (e : oPI S a ci k x = some S') (kk : gW X M (pc + 3) ls st S'.1 S'.2 Q mc ms) : gW X M pc ls (.int x :: .ref a :: st) S.1 S.2 Q mc ms := by
  obtain ⟨f, e1, e2, rfl⟩ := oP_some e
  exact r_put ci k ty hd hf e1 e2 (by subst ht; rfl) (by subst ht; rfl) kk
theorem q_putIF {idx ci k a : Nat} {ty : FieldType} {x : Int32} {S' : pS} (hd : decode M.2.1 pc = .ok (.putfield idx, 3)) (hf : gFP M.1.cls idx ci k ty true) (ht : ty = .int) (hin : M.1.name = "<init>") (e : oPI S a ci k x = some S') (kk : gW X M (pc + 3) ls st S'.1 S'.2 Q mc ms) : gW X M pc ls (.int x :: .ref a :: st) S.1 S.2 Q mc ms := by
  obtain ⟨f, e1, e2, rfl⟩ := oP_some e
  exact r_putF ci k ty hd hf hin e1 e2 (by subst ht; rfl) (by subst ht; rfl) kk
theorem q_putJ {idx ci k a : Nat} {ty : FieldType} {x : Int64} {S' : pS} (hd : decode M.2.1 pc = .ok (.putfield idx, 3)) (hf : gFP M.1.cls idx ci k ty false) (ht : ty = .long) (e : oPJ S a ci k x = some S') (kk : gW X M (pc + 3) ls st S'.1 S'.2 Q mc ms) : gW X M pc ls (.long x :: .ref a :: st) S.1 S.2 Q mc ms := by
  obtain ⟨f, e1, e2, rfl⟩ := oP_some e
  exact r_put ci k ty hd hf e1 e2 (by subst ht; rfl) (by subst ht; rfl) kk
theorem q_putJF {idx ci k a : Nat} {ty : FieldType} {x : Int64} {S' : pS} (hd : decode M.2.1 pc = .ok (.putfield idx, 3)) (hf : gFP M.1.cls idx ci k ty true) (ht : ty = .long) (hin : M.1.name = "<init>") (e : oPJ S a ci k x = some S') (kk : gW X M (pc + 3) ls st S'.1 S'.2 Q mc ms) : gW X M pc ls (.long x :: .ref a :: st) S.1 S.2 Q mc ms := by
  obtain ⟨f, e1, e2, rfl⟩ := oP_some e
  exact r_putF ci k ty hd hf hin e1 e2 (by subst ht; rfl) (by subst ht; rfl) kk
theorem q_putA {idx ci k a : Nat} {ty : FieldType} {x : Nat} {S' : pS} (hd : decode M.2.1 pc = .ok (.putfield idx, 3)) (hf : gFP M.1.cls idx ci k ty false) (ht : (∃ c, ty = .object c) ∨ ∃ c, ty = .array c) (e : oPA S a ci k x = some S') (kk : gW X M (pc + 3) ls st S'.1 S'.2 Q mc ms) : gW X M pc ls (.ref x :: .ref a :: st) S.1 S.2 Q mc ms := by
  obtain ⟨f, e1, e2, rfl⟩ := oP_some e
  exact r_put ci k ty hd hf e1 e2 (by rcases ht with ⟨c, rfl⟩ | ⟨c, rfl⟩ <;> rfl) (by rcases ht with ⟨c, rfl⟩ | ⟨c, rfl⟩ <;> rfl) kk
theorem q_putAF {idx ci k a : Nat} {ty : FieldType} {x : Nat} {S' : pS} (hd : decode M.2.1 pc = .ok (.putfield idx, 3)) (hf : gFP M.1.cls idx ci k ty true) (ht : (∃ c, ty = .object c) ∨ ∃ c, ty = .array c) (hin : M.1.name = "<init>") (e : oPA S a ci k x = some S') (kk : gW X M (pc + 3) ls st S'.1 S'.2 Q mc ms) : gW X M pc ls (.ref x :: .ref a :: st) S.1 S.2 Q mc ms := by
  obtain ⟨f, e1, e2, rfl⟩ := oP_some e
  exact r_putF ci k ty hd hf hin e1 e2 (by rcases ht with ⟨c, rfl⟩ | ⟨c, rfl⟩ <;> rfl) (by rcases ht with ⟨c, rfl⟩ | ⟨c, rfl⟩ <;> rfl) kk
theorem q_putN {idx ci k a : Nat} {ty : FieldType} {x : Option Nat} {S' : pS} (hd : decode M.2.1 pc = .ok (.putfield idx, 3)) (hf : gFP M.1.cls idx ci k ty false) (ht : (∃ c, ty = .object c) ∨ ∃ c, ty = .array c) (e : oPN S a ci k x = some S') (kk : gW X M (pc + 3) ls st S'.1 S'.2 Q mc ms) : gW X M pc ls (va_rf x :: .ref a :: st) S.1 S.2 Q mc ms := by
  obtain ⟨f, e1, e2, rfl⟩ := oP_some e
  exact r_put ci k ty hd hf e1 e2 (by rcases ht with ⟨c, rfl⟩ | ⟨c, rfl⟩ <;> cases x <;> rfl) (by rcases ht with ⟨c, rfl⟩ | ⟨c, rfl⟩ <;> cases x <;> rfl) kk
theorem q_putNF {idx ci k a : Nat} {ty : FieldType} {x : Option Nat} {S' : pS} (hd : decode M.2.1 pc = .ok (.putfield idx, 3)) (hf : gFP M.1.cls idx ci k ty true) (ht : (∃ c, ty = .object c) ∨ ∃ c, ty = .array c) (hin : M.1.name = "<init>") (e : oPN S a ci k x = some S') (kk : gW X M (pc + 3) ls st S'.1 S'.2 Q mc ms) : gW X M pc ls (va_rf x :: .ref a :: st) S.1 S.2 Q mc ms := by
  obtain ⟨f, e1, e2, rfl⟩ := oP_some e
  exact r_putF ci k ty hd hf hin e1 e2 (by rcases ht with ⟨c, rfl⟩ | ⟨c, rfl⟩ <;> cases x <;> rfl) (by rcases ht with ⟨c, rfl⟩ | ⟨c, rfl⟩ <;> cases x <;> rfl) kk
theorem q_putZ {idx ci k a : Nat} {ty : FieldType} {x : Int32} {S' : pS} (hd : decode M.2.1 pc = .ok (.putfield idx, 3)) (hf : gFP M.1.cls idx ci k ty false) (ht : ty = .boolean) (e : oPZ S a ci k x = some S') (kk : gW X M (pc + 3) ls st S'.1 S'.2 Q mc ms) : gW X M pc ls (.int x :: .ref a :: st) S.1 S.2 Q mc ms := by
  obtain ⟨hx, e⟩ := oPZ_some e
  obtain ⟨f, e1, e2, rfl⟩ := oP_some e
  subst ht
  refine r_put ci k .boolean hd hf e1 e2 ?_ ?_ kk
  · rcases hx with rfl | rfl <;> rfl
  · rcases hx with rfl | rfl <;> rfl
theorem q_iald {a : Nat} {i : Int32} {x : Int32} (hd : decode M.2.1 pc = .ok (.iaload, 1)) (e : oAI S a .int i = some x) (kk : gW X M (pc + 1) ls (.int x :: st) S.1 S.2 Q mc ms) : gW X M pc ls (.int i :: .ref a :: st) S.1 S.2 Q mc ms := by
  obtain ⟨N, f, e1, e2, e3, rfl⟩ := oAI_some e
  exact r_iald hd e1 e2 e3 kk
theorem q_cald {a : Nat} {i : Int32} {x : Int32} (hd : decode M.2.1 pc = .ok (.caload, 1)) (e : oAI S a .char i = some x) (kk : gW X M (pc + 1) ls (.int x :: st) S.1 S.2 Q mc ms) : gW X M pc ls (.int i :: .ref a :: st) S.1 S.2 Q mc ms := by
  obtain ⟨N, f, e1, e2, e3, rfl⟩ := oAI_some e
  exact r_cald hd e1 e2 e3 kk
theorem q_zald {a : Nat} {i : Int32} {x : Int32} (hd : decode M.2.1 pc = .ok (.baload, 1)) (e : oAI S a .boolean i = some x) (kk : gW X M (pc + 1) ls (.int x :: st) S.1 S.2 Q mc ms) : gW X M pc ls (.int i :: .ref a :: st) S.1 S.2 Q mc ms := by
  obtain ⟨N, f, e1, e2, e3, rfl⟩ := oAI_some e
  exact r_zald hd e1 e2 e3 kk
theorem q_lald {a : Nat} {i : Int32} {x : Int64} (hd : decode M.2.1 pc = .ok (.laload, 1)) (e : oAJ S a .long i = some x) (kk : gW X M (pc + 1) ls (.long x :: st) S.1 S.2 Q mc ms) : gW X M pc ls (.int i :: .ref a :: st) S.1 S.2 Q mc ms := by
  obtain ⟨N, f, e1, e2, e3, rfl⟩ := oAJ_some e
  exact r_lald hd e1 e2 e3 kk
theorem q_dald {a : Nat} {i : Int32} {x : UInt64} (hd : decode M.2.1 pc = .ok (.daload, 1)) (e : oAD S a .double i = some x) (kk : gW X M (pc + 1) ls (.double x :: st) S.1 S.2 Q mc ms) : gW X M pc ls (.int i :: .ref a :: st) S.1 S.2 Q mc ms := by
  obtain ⟨N, f, e1, e2, e3, rfl⟩ := oAD_some e
  exact r_dald hd e1 e2 e3 kk
theorem q_iast {a : Nat} {i : Int32} {x : Int32} {S' : pS} (hd : decode M.2.1 pc = .ok (.iastore, 1)) (e : oSI S a .int i x = some S') (kk : gW X M (pc + 1) ls st S'.1 S'.2 Q mc ms) : gW X M pc ls (.int x :: .int i :: .ref a :: st) S.1 S.2 Q mc ms := by
  obtain ⟨N, f, e1, e2, e3, rfl⟩ := oSI_some e
  exact r_iast hd e1 e2 e3 kk
theorem q_cast {a : Nat} {i : Int32} {x : Int32} {S' : pS} (hd : decode M.2.1 pc = .ok (.castore, 1)) (e : oSI S a .char i x = some S') (kk : gW X M (pc + 1) ls st S'.1 S'.2 Q mc ms) : gW X M pc ls (.int x :: .int i :: .ref a :: st) S.1 S.2 Q mc ms := by
  obtain ⟨N, f, e1, e2, e3, rfl⟩ := oSI_some e
  exact r_cast hd e1 e2 e3 kk
theorem q_zast {a : Nat} {i : Int32} {x : Int32} {S' : pS} (hd : decode M.2.1 pc = .ok (.bastore, 1)) (e : oSI S a .boolean i x = some S') (kk : gW X M (pc + 1) ls st S'.1 S'.2 Q mc ms) : gW X M pc ls (.int x :: .int i :: .ref a :: st) S.1 S.2 Q mc ms := by
  obtain ⟨N, f, e1, e2, e3, rfl⟩ := oSI_some e
  exact r_zast hd e1 e2 e3 kk
theorem q_last {a : Nat} {i : Int32} {x : Int64} {S' : pS} (hd : decode M.2.1 pc = .ok (.lastore, 1)) (e : oSJ S a .long i x = some S') (kk : gW X M (pc + 1) ls st S'.1 S'.2 Q mc ms) : gW X M pc ls (.long x :: .int i :: .ref a :: st) S.1 S.2 Q mc ms := by
  obtain ⟨N, f, e1, e2, e3, rfl⟩ := oSJ_some e
  exact r_last hd e1 e2 e3 kk
theorem q_dast {a : Nat} {i : Int32} {x : UInt64} {S' : pS} (hd : decode M.2.1 pc = .ok (.dastore, 1)) (e : oSD S a .double i x = some S') (kk : gW X M (pc + 1) ls st S'.1 S'.2 Q mc ms) : gW X M pc ls (.double x :: .int i :: .ref a :: st) S.1 S.2 Q mc ms := by
  obtain ⟨N, f, e1, e2, e3, rfl⟩ := oSD_some e
  exact r_dast hd e1 e2 e3 kk
theorem q_aald (cn : String) {a : Nat} {i : Int32} {x : Option Nat} (hd : decode M.2.1 pc = .ok (.aaload, 1)) (ht : (.object cn : FieldType) ∈ pTys) (e : oAR S a (.object cn) i = some x) (kk : gW X M (pc + 1) ls (va_rf x :: st) S.1 S.2 Q mc ms) : gW X M pc ls (.int i :: .ref a :: st) S.1 S.2 Q mc ms := by
  obtain ⟨N, f, e1, e2, e3, rfl⟩ := oAR_some e
  exact r_aald cn hd ht e1 e2 e3 kk
theorem q_nload {i : Nat} {x : Option Nat} (hd : decode M.2.1 pc = .ok (.aload i, 2)) (hv : ls[i]? = some (some (va_rf x))) (k : gW X M (pc + 2) ls (va_rf x :: st) S.1 S.2 Q mc ms) : gW X M pc ls st S.1 S.2 Q mc ms := by
  cases x with
  | none => exact r_nload hd hv k
  | some a => exact r_aload hd hv k
theorem q_nload_n {i : Fin 4} {x : Option Nat} (hd : decode M.2.1 pc = .ok (.aload_n i, 1)) (hv : ls[(i : Nat)]? = some (some (va_rf x))) (k : gW X M (pc + 1) ls (va_rf x :: st) S.1 S.2 Q mc ms) : gW X M pc ls st S.1 S.2 Q mc ms := by
  cases x with
  | none => exact r_nload_n hd hv k
  | some a => exact r_aload_n hd hv k
theorem q_nstore {i : Nat} {x : Option Nat} (hd : decode M.2.1 pc = .ok (.astore i, 2)) (hi : i < M.2.2.1) (k : gW X M (pc + 2) (gst1 ls i (va_rf x)) st S.1 S.2 Q mc ms) : gW X M pc ls (va_rf x :: st) S.1 S.2 Q mc ms := by
  cases x with
  | none => exact r_nstore hd hi k
  | some a => exact r_astore hd hi k
theorem q_nstore_n {i : Fin 4} {x : Option Nat} (hd : decode M.2.1 pc = .ok (.astore_n i, 1)) (hi : (i : Nat) < M.2.2.1) (k : gW X M (pc + 1) (gst1 ls i (va_rf x)) st S.1 S.2 Q mc ms) : gW X M pc ls (va_rf x :: st) S.1 S.2 Q mc ms := by
  cases x with
  | none => exact r_nstore_n hd hi k
  | some a => exact r_astore_n hd hi k
/-- fewer known locals -/
def gle : List (Option Value) → List (Option Value) → Prop
  | [], _ => True
  | none :: a, _ :: b => gle a b
  | some v :: a, w :: b => w = some v ∧ gle a b
  | none :: a, [] => gle a []
  | some _ :: _, [] => False
theorem gle_at : ∀ (a b : List (Option Value)), gle a b → ∀ (i : Nat) (v : Value), a[i]? = some (some v) → b[i]? = some (some v) := by
  intro a
  induction a with
  | nil => intro b _ i v h; simp at h
  | cons x a ih =>
    intro b hb i v h
    cases x with
    | none =>
      cases b with
      | nil =>
        cases i with
        | zero => simp at h
        | succ i => exact absurd (ih [] hb i v (by simpa using h)) (by simp)
      | cons y b =>
        cases i with
        | zero => simp at h
        | succ i => have := ih b hb i v (by simpa using h); simpa using this
    | some w =>
      cases b with
      | nil => exact absurd hb (by simp [gle])
      | cons y b =>
        obtain ⟨h1, h2⟩ := hb
        cases i with
        | zero => simp at h; subst h; simp [h1]
        | succ i => have := ih b h2 i v (by simpa using h); simpa using this
theorem gW.weak {n : Nat} {h : pF} {ls' : List (Option Value)} (hle : gle ls' ls) (k : gW X M pc ls' st n h Q mc ms) : gW X M pc ls st n h Q mc ms :=
  fun l p e R s m args below meth c H locs cells slots lsA QQ C hw hS hl => k l p e R s m args below meth c H locs cells slots lsA QQ C hw hS ⟨hl.1, hl.2.1, fun i v q => hl.2.2 i v (gle_at _ _ hle i v q)⟩
/-- a loop -/
theorem g_iter {α β : Type} {f : α → Option (α ⊕ β)} {L : α → List (Option Value)} {s : α → pS} {K : β → Prop}
    (body : ∀ a r, f a = some r → Sum.elim (fun a' => gW X M pc (L a') [] (s a').1 (s a').2 Q mc ms) K r → gW X M pc (L a) [] (s a).1 (s a).2 Q mc ms) :
    ∀ (k : Nat) (a : α) (b : β), iter f k a = some b → K b → gW X M pc (L a) [] (s a).1 (s a).2 Q mc ms := by
  intro k
  induction k with
  | zero => intro a b h; cases h
  | succ k ih =>
    intro a b h hb
    obtain ⟨r, e, h⟩ := obind h
    refine body a r e ?_
    cases r with
    | inl a' => exact ih a' b h hb
    | inr b' =>
      have : some b' = some b := h
      cases this
      exact hb
theorem tsw_out (x : Int32) (lo : Int) (k : Nat) (h : ∀ j : Nat, j < k → ¬ x = Int32.ofInt (lo + j)) : x.toInt < lo ∨ lo + k - 1 < x.toInt := by
  by_cases c1 : x.toInt < lo
  · exact Or.inl c1
  · by_cases c2 : lo + k - 1 < x.toInt
    · exact Or.inr c2
    · exfalso
      have hj : (x.toInt - lo).toNat < k := by omega
      refine h _ hj ?_
      have e : lo + ((x.toInt - lo).toNat : Int) = x.toInt := by omega
      rw [e]
      exact (Int32.ofInt_toInt x).symm
end RULES
