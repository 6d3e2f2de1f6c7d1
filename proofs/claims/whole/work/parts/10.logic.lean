/-! MY OWN LOGIC OVER W: virtual heaps. A cell is an array (type of its elements, length and contents) or an object (class number, fields). A run's frame X: (offset of the new cells, external constants, class tables, array classes, the script) -/
abbrev pE : Type := (FieldType × vp_A) ⊕ (Nat × (Nat → Value))
abbrev pF : Type := Nat → pE
abbrev pX : Type := Nat × (Nat → Nat) × va_G × (FieldType → ClassId) × Nat × (Nat → Int32)
def pu {α : Type} (f : Nat → α) (k : Nat) (x : α) : Nat → α := fun j => if j = k then x else f j
theorem pu_at {α : Type} (f : Nat → α) (k : Nat) (x : α) : pu f k x k = x := by simp [pu]
theorem pu_ne {α : Type} (f : Nat → α) (k : Nat) (x : α) {j : Nat} (h : j ≠ k) : pu f k x j = f j := by simp [pu, h]
/-- a virtual value as the machine has it: a reference by the offset; retAddr k is the external constant k -/
def pv (X : pX) (v : Value) : Value := match v with
  | .ref a => .ref (X.1 + a)
  | .retAddr k => .ref (X.2.1 k)
  | .int x => .int x
  | .long x => .long x
  | .float x => .float x
  | .double x => .double x
  | .null => .null
theorem pv_cat (X : pX) (v : Value) : (pv X v).category = v.category := by cases v <;> rfl
def pa (X : pX) (a : vp_A) : vp_A := match a with
  | (n, .inl f) => (n, .inl f)
  | (n, .inr (.inl f)) => (n, .inr (.inl f))
  | (n, .inr (.inr (.inl f))) => (n, .inr (.inr (.inl f)))
  | (n, .inr (.inr (.inr (.inl f)))) => (n, .inr (.inr (.inr (.inl f))))
  | (n, .inr (.inr (.inr (.inr f)))) => (n, .inr (.inr (.inr (.inr (fun j => (f j).map (fun q => X.1 + q))))))
def pat (X : pX) (i : Nat) (x : pE) (H : Heap) : Prop := match x with
  | .inl a => H[X.1 + i]? = some (vp_cell (X.2.2.2.1 a.1) (pa X a.2))
  | .inr o => ∀ r : vw_C, vwCl[o.1]? = some r → t_OB (X.1 + i) (X.2.2.1.1 o.1) r.2.2 (X.2.2.1.2 o.1) H (fun k => pv X (o.2 k))
/-- the heap holds the n cells h from the offset on -/
def pw (X : pX) (n : Nat) (h : pF) (H : Heap) : Prop := H.size = X.1 + n ∧ ∀ i, i < n → pat X i (h i) H
def pA (X : pX) : Nat → Prop := fun q => X.1 ≤ q
theorem pat_kept {X : pX} {i : Nat} {x : pE} {H H1 : Heap} (h : pat X i x H) (e : H1[X.1 + i]? = H[X.1 + i]?) : pat X i x H1 := by
  cases x with
  | inl a => exact (show H1[X.1 + i]? = _ by rw [e]; exact h)
  | inr o => exact fun r hr => (h r hr).kept e
theorem pw_set {X : pX} {n : Nat} {h : pF} {H H1 : Heap} {i : Nat} {x : pE} (hw : pw X n h H) (hz : H1.size = H.size) (he : pat X i x H1) (ho : ∀ q : Nat, q ≠ X.1 + i → H1[q]? = H[q]?) : pw X n (pu h i x) H1 := by
  refine ⟨hz.trans hw.1, fun j hj => ?_⟩
  by_cases e : j = i
  · subst e; rw [pu_at]; exact he
  · rw [pu_ne _ _ _ e]; exact pat_kept (hw.2 j hj) (ho _ (by omega))
theorem pw_push {X : pX} {n : Nat} {h : pF} {H H1 : Heap} {x : pE} (hw : pw X n h H) (hz : H1.size = H.size + 1) (he : pat X n x H1) (ho : ∀ q : Nat, q < H.size → H1[q]? = H[q]?) : pw X (n + 1) (pu h n x) H1 := by
  refine ⟨by rw [hz, hw.1]; rfl, fun j hj => ?_⟩
  by_cases e : j = n
  · subst e; rw [pu_at]; exact he
  · rw [pu_ne _ _ _ e]; exact pat_kept (hw.2 j (by omega)) (ho _ (by rw [hw.1]; omega))
/-- the array types in use -/
def pTys : List FieldType := [.int, .char, .long, .boolean, .double, .object "CloneOutliner$Tree"]
/-- the String constants: class, entry, text; the first eight are read, the others are messages -/
def pStr : List (String × Nat × String) := [("CloneOutliner$Conditions", 72, "one"), ("CloneOutliner$Conditions", 74, "ated"), ("CloneOutliner$Conditions", 53, "eaf"), ("CloneOutliner$Conditions", 59, "any"), ("CloneOutlinerModel", 300, "done"), ("CloneOutlinerModel", 302, "dated"), ("CloneOutlinerModel", 304, "leaf"), ("CloneOutlinerModel", 306, "many"), ("CloneOutliner", 116, "a byte is not a character from 32 to 126"), ("CloneOutliner", 127, "the input buffer holds no more than 80 characters"), ("CloneOutliner", 406, "there is no such item"), ("CloneOutliner", 413, "the index is out of range"), ("CloneOutliner", 420, "the text is malformed"), ("CloneOutliner", 162, "it is refused"), ("CloneOutliner", 409, "there is no such item other than the root"), ("CloneOutliner", 411, "there is no such index"), ("CloneOutliner", 208, "the last child is before the first one"), ("CloneOutliner", 415, "there is no such line"), ("CloneOutliner", 230, "no child is before it"), ("CloneOutliner", 239, "its depth is 0"), ("CloneOutliner", 254, "the number is out of range"), ("CloneOutliner", 312, "what is out of range"), ("CloneOutliner", 337, "there are 4 hoists"), ("CloneOutliner", 342, "there are no hoists"), ("CloneOutliner", 367, "no text was malformed"), ("CloneOutliner", 370, "nothing was refused"), ("CloneOutliner", 394, "no change can be undone"), ("CloneOutliner", 399, "there is no snapshot")]
def pLen : List Nat := [3, 4, 3, 3, 4, 5, 4, 4]
def pByt : List (List Int32) := [[111, 110, 101], [97, 116, 101, 100], [101, 97, 102], [97, 110, 121], [100, 111, 110, 101], [100, 97, 116, 101, 100], [108, 101, 97, 102], [109, 97, 110, 121]]
/-- the exceptions -/
def pCast : List (String × String) := [("java/lang/IllegalArgumentException", "java/lang/IllegalArgumentException"), ("java/lang/IllegalStateException", "java/lang/IllegalStateException"), ("java/lang/UnsupportedOperationException", "java/lang/UnsupportedOperationException"), ("java/util/NoSuchElementException", "java/util/NoSuchElementException"), ("java/lang/IndexOutOfBoundsException", "java/lang/IndexOutOfBoundsException")]
/-- pairs of exceptions that are not castable -/
def pNc : List (String × String) := (pCast.flatMap fun a => pCast.map fun b => (a.1, b.1)).filter fun q => !(q.1 == q.2)
/-- constructors that the exceptions' own call -/
def pDecl : List String := ["java/lang/RuntimeException", "java/lang/Exception", "java/lang/Throwable"]
/-- what holds of a state at which a method is entered: tables, array classes, statics and String constants, the script -/
def pk (X : pX) (U : State) : Prop := va_K X.2.2.1 vwCl [] U ∧ (∀ ty ∈ pTys, ArrOfT U (X.2.2.2.1 ty) ty ∧ va_RA U (X.2.2.2.1 ty) ty) ∧
  vx_Zq Bundle.tN "UNASSIGNED_STACK" Bundle.steD (pA X) U U.heap ∧ vx_Zq Bundle.tN "SUPPRESSED_SENTINEL" Bundle.listD (pA X) U U.heap ∧
  (∀ (i : Nat) (q : String × Nat × String), pStr[i]? = some q → vk_R q.1 q.2.1 q.2.2 (X.2.1 (i + 1)) U) ∧ vk_S 8 pLen pByt (fun i => X.2.1 (i + 1)) (fun i => X.2.1 (i + 100)) (pA X) U U.heap ∧
  va_X (X.2.1 0) X.2.2.2.2.1 X.2.2.2.2.2 U U.heap ∧ X.2.1 0 < X.1 ∧ X.1 ≤ U.heap.size ∧ (∀ q ∈ pNest, va_Nw (.methodLinkNest q.1 q.2.1 q.2.2 "CloneOutliner") U) ∧ (∀ q ∈ pCast, va_Nw (.castable q.1 q.2) U) ∧ (∀ q ∈ pNc, va_Nc q.1 q.2 U) ∧ va_AO "CloneOutliner$Tree" U ∧ (∀ q ∈ pDecl, va_Nw (.declares (Bundle.initS q)) U) ∧ va_Z "java/lang/String" "COMPACT_STRINGS" "Z" (.int 1) (pA X) U U.heap ∧
  (va_Z "jdk/internal/util/Preconditions" "SIOOBE_FORMATTER" "Ljava/util/function/BiFunction;" .null (pA X) U U.heap ∨ va_Z "jdk/internal/util/Preconditions" "SIOOBE_FORMATTER" "Ljava/util/function/BiFunction;" (.ref (X.2.1 200)) (pA X) U U.heap)
theorem pk_step {X : pX} {s U : State} {H : Heap} {locs : List Loc} (hk : pk X s) (hW : s.WarmedH U.vm) (hU : U.heap = H) (hS : va_S (pA X) s.heap H locs) : pk X U := by
  obtain ⟨k1, k2, k3, k4, k5, k6, ⟨scr, x1, x2, x3, x4, x5⟩, k8, k9, k10, k11, k12, k13, k14, k15, k16⟩ := hk
  subst hU
  have ho : ∀ a : Nat, a < s.heap.size → ¬ pA X a → U.heap[a]? = s.heap[a]? := hS.2.1
  have hal := hW.alike
  refine ⟨va_K.moved hal k1, fun ty ht => ⟨arrOfT_moved hal (k2 ty ht).1, (k2 ty ht).2.moved hal⟩, (k3.kept ho).moved hal, (k4.kept ho).moved hal, fun i q hq => (k5 i q hq).warm hW, (k6.kept ho).moved hal, ⟨scr, ?_, State.isArrayOf_alike hal x2, x3, x4, x5⟩, k8, Nat.le_trans k9 hS.1, fun q hq => (k10 q hq).warmM hW, fun q hq => (k11 q hq).warmC hW, fun q hq => (k12 q hq).moved hal, k13.moved hal, fun q hq => (k14 q hq).warmD hW, (k15.kept ho).moved hal, k16.elim (fun z => Or.inl ((z.kept ho).moved hal)) (fun z => Or.inr ((z.kept ho).moved hal))⟩
  have hlt : X.2.1 0 < s.heap.size := Nat.lt_of_lt_of_le k8 k9
  rw [ho _ hlt (fun z => Nat.not_le.mpr k8 z)]
  exact x1
/-! methods -/
/-- outcomes: a value or none is returned, or an exception of a class is thrown -/
abbrev pO : Type := Option Value ⊕ String
/-- exception tables: the law's own callers have some, no other method has -/
def pTab (y : MethodName) : List (Nat × Nat × Nat × Nat) := if y.cls = "CloneOutlinerLaw" then (match y.name with
  | "append" => [(0, 9, 12, 13), (0, 9, 15, 15)]
  | "add" => [(0, 10, 13, 21), (0, 10, 17, 23), (0, 10, 21, 13), (0, 10, 25, 25)]
  | "clone" => [(0, 12, 15, 21), (0, 12, 19, 23), (0, 12, 23, 25)]
  | "detach" => [(0, 10, 13, 21), (0, 10, 17, 23)]
  | "moveBlock" => [(0, 16, 19, 21), (0, 16, 23, 23), (0, 16, 27, 25)]
  | "indent" => [(0, 9, 12, 21), (0, 9, 15, 15), (0, 9, 18, 25)]
  | "outdent" => [(0, 9, 12, 21), (0, 9, 15, 15), (0, 9, 18, 25)]
  | "rename" => [(0, 9, 12, 21), (0, 9, 15, 13)]
  | "setNumber" => [(0, 12, 15, 21), (0, 12, 19, 13)]
  | "setFlag" => [(0, 19, 22, 21)]
  | "item" => [(0, 10, 13, 21), (0, 10, 17, 13)]
  | "related" => [(0, 12, 15, 21), (0, 12, 19, 23)]
  | "letter" => [(0, 10, 13, 21), (0, 10, 17, 23)]
  | "isBelow" => [(0, 17, 20, 21)]
  | "outline" => [(0, 9, 12, 13)]
  | "doneShare" => [(0, 9, 12, 21)]
  | "meanValue" => [(0, 8, 11, 21)]
  | "hoist" => [(0, 9, 12, 21), (0, 9, 15, 15)]
  | "unhoist" => [(0, 8, 11, 15)]
  | "filter" => [(0, 8, 11, 13)]
  | "line" => [(0, 10, 13, 21), (0, 10, 17, 13)]
  | "path" => [(0, 10, 13, 21), (0, 10, 17, 23)]
  | "load" => [(0, 9, 12, 21), (0, 9, 15, 13), (0, 9, 18, 25)]
  | "errorPosition" => [(0, 8, 11, 15)]
  | "refusal" => [(0, 9, 12, 15), (0, 9, 15, 23)]
  | "undo" => [(0, 8, 11, 15)]
  | "restore" => [(0, 8, 11, 15)]
  | _ => []) else []
/-- what holds throughout a method's run -/
def gCx (X : pX) (M : pM) (l : Launch) (p : Program) (R : Room) (s : State) (m : MethodId) (args : Array Value) (meth : Method) (c : Code) : Prop :=
  p.tables.exec = Jvm.exec ∧ c.code = M.2.1 ∧ c.maxLocals = M.2.2.1 ∧ meth.sig.returnType = M.2.2.2.1 ∧ meth.locks = false ∧ meth.name = M.1.name ∧ s.vm.findClass M.1.cls = some m.cls ∧ (∀ w ∈ gT, w.before args s = true) ∧ M.2.2.2.2.1 ≤ R.frames ∧ M.2.2.2.2.2 ≤ R.locals ∧ l.stackTraces = false ∧ pk X s ∧ c.exceptionTable.toList = tableOf (pTab M.1)
/-- the locals of a frame, by place -/
def gL (X : pX) (lsA : Array Slot) (nL : Nat) (ls : List (Option Value)) : Prop := lsA.size = nL ∧ lv_wf lsA ∧ ∀ (i : Nat) (v : Value), ls[i]? = some (some v) → lsA[i]? = some (.val (pv X v))
/-- the return instruction that fits a value -/
def gRet (M : pM) (pc : Nat) (v : Option Value) : Prop := match v with
  | none => decode M.2.1 pc = .ok (.return_, 1) ∧ M.2.2.2.1 = none
  | some (.int x) => decode M.2.1 pc = .ok (.ireturn, 1) ∧ ∃ ty, M.2.2.2.1 = some ty ∧ narrow ty (.int x) = .int x
  | some (.long _) => decode M.2.1 pc = .ok (.lreturn, 1) ∧ M.2.2.2.1 = some .long
  | some (.float _) => decode M.2.1 pc = .ok (.freturn, 1) ∧ M.2.2.2.1 = some .float
  | some (.double _) => decode M.2.1 pc = .ok (.dreturn, 1) ∧ M.2.2.2.1 = some .double
  | some _ => decode M.2.1 pc = .ok (.areturn, 1) ∧ ∃ n, M.2.2.2.1 = some (.object n)
/-- how a throw of the method's own ends: none is, or the method has no table and its end is a contract's -/
def gN (X : pX) (Q : pO → Nat → pF → Prop) (R : Room) (s : State) (below : List Frame) (args : Array Value) (c : Code) (QQ : State → Prop) : Prop :=
  (∀ (E : String) (n' : Nat) (h' : pF), ¬ Q (.inr E) n' h') ∨ ((∀ x ∈ c.exceptionTable.toList, False) ∧ ∃ (Qc : Array Value → State → Outcome → State → Prop) (XC : String → State → State → Prop), QQ = vx_MQ below Qc XC args s R.cells R.slots (pA X) ∧
    ∀ (E : String) (n' : Nat) (h' : pF) (t : State), Q (.inr E) n' h' → pw X n' h' t.heap → va_F (pA X) s t → XC E s t)
/-- the judgement: from pc with locals ls, stack st and the n cells h the method ends with Q of its outcome and its cells, and makes at most mc cells of ms slots -/
def gW (X : pX) (M : pM) (pc : Nat) (ls : List (Option Value)) (st : List Value) (n : Nat) (h : pF) (Q : pO → Nat → pF → Prop) (mc ms : Nat) : Prop :=
  ∀ (l : Launch) (p : Program) (e : Env) (R : Room) (s : State) (m : MethodId) (args : Array Value) (below : List Frame) (meth : Method) (c : Code) (H : Heap) (locs : List Loc) (cells slots : Nat) (lsA : Array Slot) (QQ : State → Prop),
    gCx X M l p R s m args meth c → pw X n h H → va_S (pA X) s.heap H locs → gL X lsA M.2.2.1 ls → cells + mc ≤ R.cells → slots + ms ≤ R.slots →
    (∀ (v : Option Value) (n' : Nat) (h' : pF) (H' : Heap) (locs' : List Loc) (cells' slots' pc' : Nat) (ls' : Array Slot), Q (.inl v) n' h' → pw X n' h' H' → va_S (pA X) s.heap H' locs' → cells' ≤ R.cells → slots' ≤ R.slots → gRet M pc' v →
      W p l e R s m args below meth c H' locs' cells' slots' QQ (F0 m pc' ls' (v.toList.map (pv X)))) →
    (∀ (E : String) (q : Addr) (ce : Cell) (n' : Nat) (h' : pF) (H' : Heap) (locs' : List Loc) (cells' slots' pc' : Nat) (ls' : Array Slot) (rest : List Value), Q (.inr E) n' h' → pw X n' h' H' → va_S (pA X) s.heap H' locs' → H'[q]? = some ce → ce.vm = .none → s.vm.findClass E = some ce.cls → cells' ≤ R.cells → slots' ≤ R.slots →
      vx_W p l e R s m args below meth c H' locs' cells' slots' QQ (F0 m pc' ls' rest) q) →
    gN X Q R s below args c QQ →
    W p l e R s m args below meth c H locs cells slots QQ (F0 m pc lsA (st.map (pv X)))
/-- a method's contract -/
def gQ (X : pX) (Q : pO → Nat → pF → Prop) : Array Value → State → Outcome → State → Prop := fun _ st oc t => ∃ (v : Option Value) (n' : Nat) (h' : pF), oc = .returned (v.map (pv X)) ∧ Q (.inl v) n' h' ∧ pw X n' h' t.heap ∧ va_F (pA X) st t
def gXc (X : pX) (Q : pO → Nat → pF → Prop) : String → State → State → Prop := fun E st t => ∃ (n' : Nat) (h' : pF), Q (.inr E) n' h' ∧ pw X n' h' t.heap ∧ va_F (pA X) st t
def gws (M : pM) : List Cond := .code M.1 M.2.1 M.2.2.1 M.2.2.2.1 :: gT
def gP (X : pX) (as : List Value) (n : Nat) (h : pF) : Array Value → State → Prop := va_Pc (as.map (pv X)) (fun U => pw X n h U.heap ∧ pk X U)
def gC (X : pX) (M : pM) (as : List Value) (n : Nat) (h : pF) (Q : pO → Nat → pF → Prop) (mc ms : Nat) : Prop :=
  ∀ l : Launch, l.stackTraces = false → vx_Met l M.1 (gws M) { frames := M.2.2.2.2.1, cells := mc, slots := ms, locals := M.2.2.2.2.2 } (gP X as n h) (gQ X Q) (gXc X Q) mc ms (pA X)
