/-! calls of decompiled methods -/
theorem og {S : pS} {a ci : Nat} {β : Type} {g : (Nat → Value) → Option β} {r : β} (h : (oF S a ci).bind g = some r) : ∃ f, a < S.1 ∧ S.2 a = .inr (ci, f) := by
  obtain ⟨f, e, -⟩ := obind h
  exact ⟨f, oF_some e⟩
def qR (v : Option Value) (S : pS) : pO → Nat → pF → Prop := fun o n h => o = .inl v ∧ n = S.1 ∧ h = S.2
def qX (E : String) (S : pS) : pO → Nat → pF → Prop := fun o n h => o = .inr E ∧ S.1 ≤ n ∧ h = gjunk S.2 S.1
theorem qR_mk (v : Option Value) (S : pS) : qR v S (.inl v) S.1 S.2 := ⟨rfl, rfl, rfl⟩
theorem qX_mk (E : String) (S : pS) : ∀ n', S.1 ≤ n' → qX E S (.inr E) n' (gjunk S.2 S.1) := fun _ h => ⟨rfl, h, rfl⟩
section RULES
variable {X : pX} {M : pM} {pc : Nat} {ls : List (Option Value)} {st : List Value} {S S' : pS} {Q : pO → Nat → pF → Prop} {mc ms mc1 ms1 mc2 ms2 : Nat}
theorem q_kk {v : Option Value} (kk : gW X M (pc + 3) ls (v.toList ++ st) S'.1 S'.2 Q mc2 ms2) : ∀ (w : Option Value) (n' : Nat) (h' : pF), qR v S' (.inl w) n' h' → gW X M (pc + 3) ls (w.toList ++ st) n' h' Q mc2 ms2 := by
  intro w n' h' ⟨h1, h2, h3⟩
  cases h1; subst h2; subst h3
  exact kk
theorem q_nx {v : Option Value} : ∀ (E : String) (n' : Nat) (h' : pF), ¬ qR v S' (.inr E) n' h' := fun _ _ _ h => by cases h.1
theorem q_callV {idx : Nat} (M' : pM) (ci : Nat) (as : List Value) {a k : Nat} {v : Option Value} {Sk : List Value} (hd : decode M.2.1 pc = .ok (.invokevirtual idx, 3)) (hlk : Cond.methodLink M.1.cls idx M'.1 ∈ gT) (hm : gMth M' k) (hi : Cond.instanceMethod M'.1 ∈ gT ∧ Cond.selects M'.1.cls M'.1 M'.1 ∈ gT)
    (hroom : M'.2.2.2.2.1 + 1 ≤ M.2.2.2.2.1 ∧ 8 + (M'.2.2.1 + 11) + M'.2.2.2.2.2 ≤ M.2.2.2.2.2) (hcl : (vwCl[ci]?).map (fun q => q.1) = some M'.1.cls) (hS0 : Sk = as.reverse ++ .ref a :: st) (hk : as.length = k) (hcat : (st.map fun v => v.category).sum ≤ 8) (hg : ∃ f, a < S.1 ∧ S.2 a = .inr (ci, f)) (hmc : mc1 + mc2 ≤ mc) (hms : ms1 + ms2 ≤ ms)
    (hC : gC X M' (.ref a :: as) S.1 S.2 (qR v S') mc1 ms1) (kk : gW X M (pc + 3) ls (v.toList ++ st) S'.1 S'.2 Q mc2 ms2) : gW X M pc ls Sk S.1 S.2 Q mc ms := by
  obtain ⟨f, ha, hc⟩ := hg
  exact r_callV M' ci as hd hlk hm hi hroom hcl hS0 hk hcat ha hc hmc hms hC (q_kk kk) (fun E n' h' q => absurd q (q_nx E n' h'))
theorem q_callVt {idx : Nat} (M' : pM) (ci : Nat) (as : List Value) {a k : Nat} {E : String} {Sk : List Value} (hd : decode M.2.1 pc = .ok (.invokevirtual idx, 3)) (hlk : Cond.methodLink M.1.cls idx M'.1 ∈ gT) (hm : gMth M' k) (hi : Cond.instanceMethod M'.1 ∈ gT ∧ Cond.selects M'.1.cls M'.1 M'.1 ∈ gT)
    (hroom : M'.2.2.2.2.1 + 1 ≤ M.2.2.2.2.1 ∧ 8 + (M'.2.2.1 + 11) + M'.2.2.2.2.2 ≤ M.2.2.2.2.2) (hcl : (vwCl[ci]?).map (fun q => q.1) = some M'.1.cls) (hS0 : Sk = as.reverse ++ .ref a :: st) (hk : as.length = k) (hcat : (st.map fun v => v.category).sum ≤ 8) (hg : ∃ f, a < S.1 ∧ S.2 a = .inr (ci, f)) (hmc : mc1 ≤ mc) (hms : ms1 ≤ ms)
    (hC : gC X M' (.ref a :: as) S.1 S.2 (qX E S') mc1 ms1) (kx : ∀ n', S'.1 ≤ n' → Q (.inr E) n' (gjunk S'.2 S'.1)) : gW X M pc ls Sk S.1 S.2 Q mc ms := by
  obtain ⟨f, ha, hc⟩ := hg
  refine r_callV (mc2 := 0) (ms2 := 0) M' ci as hd hlk hm hi hroom hcl hS0 hk hcat ha hc hmc hms hC (fun w n' h' q => by cases q.1) (fun E' n' h' q => ?_)
  obtain ⟨q1, q2, q3⟩ := q
  cases q1; subst q3
  exact kx n' q2
theorem q_callS {idx : Nat} (M' : pM) (as : List Value) {k : Nat} {v : Option Value} {Sk : List Value} (hd : decode M.2.1 pc = .ok (.invokestatic idx, 3)) (hlk : Cond.methodLink M.1.cls idx M'.1 ∈ gT) (hm : gMth M' k) (hi : Cond.static M'.1 ∈ gT)
    (hroom : M'.2.2.2.2.1 + 1 ≤ M.2.2.2.2.1 ∧ 8 + (M'.2.2.1 + 11) + M'.2.2.2.2.2 ≤ M.2.2.2.2.2) (hS0 : Sk = as.reverse ++ st) (hk : as.length = k) (hcat : (st.map fun v => v.category).sum ≤ 8) (hmc : mc1 + mc2 ≤ mc) (hms : ms1 + ms2 ≤ ms)
    (hC : gC X M' as S.1 S.2 (qR v S') mc1 ms1) (kk : gW X M (pc + 3) ls (v.toList ++ st) S'.1 S'.2 Q mc2 ms2) : gW X M pc ls Sk S.1 S.2 Q mc ms :=
  r_callS M' as hd hlk hm hi hroom hS0 hk hcat hmc hms hC q_nx (q_kk kk)
theorem q_callSN {idx : Nat} (M' : pM) (as : List Value) {k : Nat} {v : Option Value} {Sk : List Value} (hd : decode M.2.1 pc = .ok (.invokestatic idx, 3)) (hlk : (M.1.cls, idx, M'.1) ∈ pNest) (hm : gMth M' k) (hi : Cond.static M'.1 ∈ gT)
    (hroom : M'.2.2.2.2.1 + 1 ≤ M.2.2.2.2.1 ∧ 8 + (M'.2.2.1 + 11) + M'.2.2.2.2.2 ≤ M.2.2.2.2.2) (hS0 : Sk = as.reverse ++ st) (hk : as.length = k) (hcat : (st.map fun v => v.category).sum ≤ 8) (hmc : mc1 + mc2 ≤ mc) (hms : ms1 + ms2 ≤ ms)
    (hC : gC X M' as S.1 S.2 (qR v S') mc1 ms1) (kk : gW X M (pc + 3) ls (v.toList ++ st) S'.1 S'.2 Q mc2 ms2) : gW X M pc ls Sk S.1 S.2 Q mc ms :=
  r_callSN M' as hd hlk hm hi hroom hS0 hk hcat hmc hms hC q_nx (q_kk kk)
theorem q_callI {idx : Nat} (M' : pM) {a : Nat} (hd : decode M.2.1 pc = .ok (.invokespecial idx, 3)) (hlk : Cond.methodLink M.1.cls idx M'.1 ∈ gT) (hm : gMth M' 0) (hi : Cond.instanceMethod M'.1 ∈ gT) (hnm : M'.1.name = "<init>") (hrt : M'.2.2.2.1 = none)
    (hroom : M'.2.2.2.2.1 + 1 ≤ M.2.2.2.2.1 ∧ 8 + (M'.2.2.1 + 11) + M'.2.2.2.2.2 ≤ M.2.2.2.2.2) (hcat : (st.map fun v => v.category).sum ≤ 8) (hmc : mc1 + mc2 ≤ mc) (hms : ms1 + ms2 ≤ ms)
    (hC : gC X M' [.ref a] S.1 S.2 (qR none S') mc1 ms1) (kk : gW X M (pc + 3) ls st S'.1 S'.2 Q mc2 ms2) : gW X M pc ls (.ref a :: st) S.1 S.2 Q mc ms :=
  r_callI M' hd hlk hm hi hnm hrt hroom hcat hmc hms hC q_nx (q_kk kk)
theorem q_callIN {idx : Nat} (M' : pM) {a : Nat} (hd : decode M.2.1 pc = .ok (.invokespecial idx, 3)) (hlk : (M.1.cls, idx, M'.1) ∈ pNest) (hm : gMth M' 0) (hi : Cond.instanceMethod M'.1 ∈ gT) (hnm : M'.1.name = "<init>") (hrt : M'.2.2.2.1 = none)
    (hroom : M'.2.2.2.2.1 + 1 ≤ M.2.2.2.2.1 ∧ 8 + (M'.2.2.1 + 11) + M'.2.2.2.2.2 ≤ M.2.2.2.2.2) (hcat : (st.map fun v => v.category).sum ≤ 8) (hmc : mc1 + mc2 ≤ mc) (hms : ms1 + ms2 ≤ ms)
    (hC : gC X M' [.ref a] S.1 S.2 (qR none S') mc1 ms1) (kk : gW X M (pc + 3) ls st S'.1 S'.2 Q mc2 ms2) : gW X M pc ls (.ref a :: st) S.1 S.2 Q mc ms :=
  r_callIN M' hd hlk hm hi hnm hrt hroom hcat hmc hms hC q_nx (q_kk kk)
end RULES
def oCpy (S : pS) (ty : FieldType) (a0 : Nat) (sp : Int32) (a : Nat) (dp z : Int32) : Option pS := (oArI S a0 ty).bind fun q0 => (oArI S a ty).bind fun q1 =>
  if sp < 0 ∨ dp < 0 ∨ z < 0 ∨ q0.1 < sp.toNatClampNeg + z.toNatClampNeg ∨ q1.1 < dp.toNatClampNeg + z.toNatClampNeg ∨ ¬ (∀ i, i < z.toNatClampNeg → fits ty (.int (q0.2 (sp.toNatClampNeg + i))) = true) then none
  else some (S.1, pu S.2 a (.inl (ty, q1.1, .inl (va_cpy q0.2 q1.2 sp.toNatClampNeg dp.toNatClampNeg z.toNatClampNeg))))
/-- an element of an array of trees is set -/
def oSQ (S : pS) (a : Nat) (i : Int32) (x : Option Nat) : Option pS := match x with
  | none => none
  | some v => (oF S v 8).bind fun _ => oSR S a (.object "CloneOutliner$Tree") i (some v)
def oFdiv (x y : UInt32) : Option UInt32 := if FP.fdiv x y &&& 0x7fffffff ≤ 0x7f800000 then some (FP.fdiv x y) else none
def oDdiv (x y : UInt64) : Option UInt64 := if FP.ddiv x y &&& 0x7fffffffffffffff ≤ 0x7ff0000000000000 then some (FP.ddiv x y) else none
section RULES
variable {X : pX} {M : pM} {pc : Nat} {ls : List (Option Value)} {st : List Value} {S S' : pS} {Q : pO → Nat → pF → Prop} {mc ms mc1 ms1 mc2 ms2 : Nat}
theorem q_copy {idx a a0 : Nat} {ty : FieldType} {sp dp z : Int32} (hd : decode M.2.1 pc = .ok (.invokestatic idx, 3)) (ht : ty ∈ pTys) (hprim : refKind ty = false) (hlk : Cond.methodLink M.1.cls idx arraycopyName ∈ gT) (hnat : Cond.native arraycopyName ∈ gT) (hstat : Cond.static arraycopyName ∈ gT) (hini : Cond.initialized "java/lang/System" ∈ gT) (e : oCpy S ty a0 sp a dp z = some S')
    (hroom : 1 ≤ M.2.2.2.2.1 ∧ (st.map fun v => v.category).sum + (nativeFrameWords "java/lang/System" "arraycopy" 5 + 11) ≤ M.2.2.2.2.2) (kk : gW X M (pc + 3) ls st S'.1 S'.2 Q mc ms) : gW X M pc ls (.int z :: .int dp :: .ref a :: .int sp :: .ref a0 :: st) S.1 S.2 Q mc ms := by
  obtain ⟨q0, e0, e⟩ := obind e
  obtain ⟨q1, e1, e⟩ := obind e
  obtain ⟨f1, N, f, rfl, f2⟩ := oArI_some e0
  obtain ⟨g1, N', g, rfl, g2⟩ := oArI_some e1
  by_cases c : sp < 0 ∨ dp < 0 ∨ z < 0 ∨ N < sp.toNatClampNeg + z.toNatClampNeg ∨ N' < dp.toNatClampNeg + z.toNatClampNeg ∨ ¬ (∀ i, i < z.toNatClampNeg → fits ty (.int (f (sp.toNatClampNeg + i))) = true)
  · rw [if_pos c] at e; cases e
  · rw [if_neg c] at e
    cases e
    simp only [not_or, Decidable.not_not] at c
    obtain ⟨c1, c2, c3, c4, c5, c6⟩ := c
    exact r_copyi ty hd ht hprim hlk hnat hstat hini f1 f2 g1 g2 c1 c2 c3 (by omega) (by omega) c6 hroom kk
theorem q_aast {a : Nat} {i : Int32} {x : Option Nat} (hd : decode M.2.1 pc = .ok (.aastore, 1)) (e : oSQ S a i x = some S') (kk : gW X M (pc + 1) ls st S'.1 S'.2 Q mc ms) : gW X M pc ls (va_rf x :: .int i :: .ref a :: st) S.1 S.2 Q mc ms := by
  cases x with
  | none => cases e
  | some v =>
    obtain ⟨f, e1, e⟩ := obind e
    obtain ⟨h1, h2⟩ := oF_some e1
    obtain ⟨N, g, e2, e3, e4, rfl⟩ := oSR_some e
    exact r_aast 8 (r := (RX8, TX8, 10)) hd (by decide) rfl e2 e3 h1 h2 e4 kk
theorem q_fdiv {x y r : UInt32} (hd : decode M.2.1 pc = .ok (.fdiv, 1)) (e : oFdiv x y = some r) (kk : gW X M (pc + 1) ls (.float r :: st) S.1 S.2 Q mc ms) : gW X M pc ls (.float y :: .float x :: st) S.1 S.2 Q mc ms := by
  unfold oFdiv at e
  by_cases c : FP.fdiv x y &&& 0x7fffffff ≤ 0x7f800000
  · rw [if_pos c] at e; cases e; exact r_fdiv hd c kk
  · rw [if_neg c] at e; cases e
theorem q_ddiv {x y r : UInt64} (hd : decode M.2.1 pc = .ok (.ddiv, 1)) (e : oDdiv x y = some r) (kk : gW X M (pc + 1) ls (.double r :: st) S.1 S.2 Q mc ms) : gW X M pc ls (.double y :: .double x :: st) S.1 S.2 Q mc ms := by
  unfold oDdiv at e
  by_cases c : FP.ddiv x y &&& 0x7fffffffffffffff ≤ 0x7ff0000000000000
  · rw [if_pos c] at e; cases e; exact r_ddiv hd c kk
  · rw [if_neg c] at e; cases e
theorem r_lsub {n : Nat} {h : pF} {x y : Int64} (hd : decode M.2.1 pc = .ok (.lsub, 1)) (k : gW X M (pc + 1) ls (.long (x - y) :: st) n h Q mc ms) : gW X M pc ls (.long y :: .long x :: st) n h Q mc ms :=
  fun l p e R s m args below meth c H locs cells slots lsA QQ C hw hS hl h1 h2 kR kX kN => lv_lsub C.1 C.2.1 hd (k l p e R s m args below meth c H locs cells slots lsA QQ C hw hS hl h1 h2 kR kX kN)
theorem r_l2i {n : Nat} {h : pF} {x : Int64} (hd : decode M.2.1 pc = .ok (.l2i, 1)) (k : gW X M (pc + 1) ls (.int x.toInt32 :: st) n h Q mc ms) : gW X M pc ls (.long x :: st) n h Q mc ms :=
  fun l p e R s m args below meth c H locs cells slots lsA QQ C hw hS hl h1 h2 kR kX kN => lv_l2i C.1 C.2.1 hd rfl (k l p e R s m args below meth c H locs cells slots lsA QQ C hw hS hl h1 h2 kR kX kN)
theorem r_ladd9 {n : Nat} {h : pF} {x y : Int64} (hd : decode M.2.1 pc = .ok (.ladd, 1)) (k : gW X M (pc + 1) ls (.long (x + y) :: st) n h Q mc ms) : gW X M pc ls (.long y :: .long x :: st) n h Q mc ms :=
  fun l p e R s m args below meth c H locs cells slots lsA QQ C hw hS hl h1 h2 kR kX kN => lv_ladd C.1 C.2.1 hd (k l p e R s m args below meth c H locs cells slots lsA QQ C hw hS hl h1 h2 kR kX kN)
end RULES
theorem wx_X9_114_118 : ∀ w ∈ (vx_atS RX9 118 "java/lang/IllegalArgumentException" gxn).filter goodWord, w ∈ lw_tbl := by decide +kernel
theorem xX9_114_118 : gEx RX9 114 118 "java/lang/IllegalArgumentException" := ⟨by decide +kernel, nX9_114.1, nX9_114.2, by decide +kernel, fun w hw => (List.mem_filter.mpr ⟨wx_X9_114_118 w hw, (List.mem_filter.mp hw).2⟩), by decide +kernel, by decide +kernel⟩
theorem wx_X9_125_129 : ∀ w ∈ (vx_atS RX9 129 "java/lang/IllegalStateException" gxn).filter goodWord, w ∈ lw_tbl := by decide +kernel
theorem xX9_125_129 : gEx RX9 125 129 "java/lang/IllegalStateException" := ⟨by decide +kernel, nX9_125.1, nX9_125.2, by decide +kernel, fun w hw => (List.mem_filter.mpr ⟨wx_X9_125_129 w hw, (List.mem_filter.mp hw).2⟩), by decide +kernel, by decide +kernel⟩
theorem wx_X9_160_164 : ∀ w ∈ (vx_atS RX9 164 "java/lang/UnsupportedOperationException" gxn).filter goodWord, w ∈ lw_tbl := by decide +kernel
theorem xX9_160_164 : gEx RX9 160 164 "java/lang/UnsupportedOperationException" := ⟨by decide +kernel, nX9_160.1, nX9_160.2, by decide +kernel, fun w hw => (List.mem_filter.mpr ⟨wx_X9_160_164 w hw, (List.mem_filter.mp hw).2⟩), by decide +kernel, by decide +kernel⟩
theorem wx_X9_206_210 : ∀ w ∈ (vx_atS RX9 210 "java/lang/IndexOutOfBoundsException" gxn).filter goodWord, w ∈ lw_tbl := by decide +kernel
theorem xX9_206_210 : gEx RX9 206 210 "java/lang/IndexOutOfBoundsException" := ⟨by decide +kernel, nX9_206.1, nX9_206.2, by decide +kernel, fun w hw => (List.mem_filter.mpr ⟨wx_X9_206_210 w hw, (List.mem_filter.mp hw).2⟩), by decide +kernel, by decide +kernel⟩
theorem wx_X9_404_408 : ∀ w ∈ (nsAt RX9 408 "java/util/NoSuchElementException" gxn).filter goodWord, w ∈ lw_tbl := by decide +kernel
theorem xX9_404_408 : gExN RX9 404 408 "java/util/NoSuchElementException" := ⟨by decide +kernel, nX9_404.1, nX9_404.2, by decide +kernel, fun w hw => (List.mem_filter.mpr ⟨wx_X9_404_408 w hw, (List.mem_filter.mp hw).2⟩), by decide +kernel, by decide +kernel⟩
def dfX0 : Nat → Value := fun k => match k with
  | 0 => .null
  | _ => .int 0
theorem dfX0_ok : ∀ X' : pX, ∀ j, j < 2 → defaultValue (tyX0 j) = pv X' (dfX0 j) := by
  intro X' j hj
  match j, hj with
  | 0, _ => rfl
  | 1, _ => rfl
  | j + 2, hj => exact absurd hj (by omega)
def dfX1 : Nat → Value := fun k => match k with
  | 0 => .null
  | 1 => .null
  | 2 => .null
  | 3 => .null
  | 4 => .null
  | _ => .int 0
theorem dfX1_ok : ∀ X' : pX, ∀ j, j < 6 → defaultValue (tyX1 j) = pv X' (dfX1 j) := by
  intro X' j hj
  match j, hj with
  | 0, _ => rfl
  | 1, _ => rfl
  | 2, _ => rfl
  | 3, _ => rfl
  | 4, _ => rfl
  | 5, _ => rfl
  | j + 6, hj => exact absurd hj (by omega)
def dfX2 : Nat → Value := fun k => match k with
  | 0 => .null
  | 1 => .null
  | 2 => .null
  | 3 => .null
  | 4 => .null
  | 5 => .null
  | 6 => .null
  | 7 => .null
  | _ => .int 0
theorem dfX2_ok : ∀ X' : pX, ∀ j, j < 9 → defaultValue (tyX2 j) = pv X' (dfX2 j) := by
  intro X' j hj
  match j, hj with
  | 0, _ => rfl
  | 1, _ => rfl
  | 2, _ => rfl
  | 3, _ => rfl
  | 4, _ => rfl
  | 5, _ => rfl
  | 6, _ => rfl
  | 7, _ => rfl
  | 8, _ => rfl
  | j + 9, hj => exact absurd hj (by omega)
def dfX3 : Nat → Value := fun k => match k with
  | 0 => .null
  | _ => .int 0
theorem dfX3_ok : ∀ X' : pX, ∀ j, j < 2 → defaultValue (tyX3 j) = pv X' (dfX3 j) := by
  intro X' j hj
  match j, hj with
  | 0, _ => rfl
  | 1, _ => rfl
  | j + 2, hj => exact absurd hj (by omega)
def dfX4 : Nat → Value := fun k => match k with
  | 0 => .null
  | _ => .int 0
theorem dfX4_ok : ∀ X' : pX, ∀ j, j < 2 → defaultValue (tyX4 j) = pv X' (dfX4 j) := by
  intro X' j hj
  match j, hj with
  | 0, _ => rfl
  | 1, _ => rfl
  | j + 2, hj => exact absurd hj (by omega)
def dfX5 : Nat → Value := fun k => match k with
  | 0 => .null
  | 1 => .null
  | 2 => .null
  | 3 => .null
  | 4 => .null
  | _ => .int 0
theorem dfX5_ok : ∀ X' : pX, ∀ j, j < 6 → defaultValue (tyX5 j) = pv X' (dfX5 j) := by
  intro X' j hj
  match j, hj with
  | 0, _ => rfl
  | 1, _ => rfl
  | 2, _ => rfl
  | 3, _ => rfl
  | 4, _ => rfl
  | 5, _ => rfl
  | j + 6, hj => exact absurd hj (by omega)
def dfX6 : Nat → Value := fun k => match k with
  | 0 => .null
  | 1 => .null
  | 2 => .null
  | 3 => .int 0
  | 4 => .null
  | 5 => .null
  | 6 => .null
  | _ => .null
theorem dfX6_ok : ∀ X' : pX, ∀ j, j < 8 → defaultValue (tyX6 j) = pv X' (dfX6 j) := by
  intro X' j hj
  match j, hj with
  | 0, _ => rfl
  | 1, _ => rfl
  | 2, _ => rfl
  | 3, _ => rfl
  | 4, _ => rfl
  | 5, _ => rfl
  | 6, _ => rfl
  | 7, _ => rfl
  | j + 8, hj => exact absurd hj (by omega)
def dfX7 : Nat → Value := fun k => match k with
  | 0 => .null
  | 1 => .int 0
  | _ => .int 0
theorem dfX7_ok : ∀ X' : pX, ∀ j, j < 3 → defaultValue (tyX7 j) = pv X' (dfX7 j) := by
  intro X' j hj
  match j, hj with
  | 0, _ => rfl
  | 1, _ => rfl
  | 2, _ => rfl
  | j + 3, hj => exact absurd hj (by omega)
def dfX8 : Nat → Value := fun k => match k with
  | 0 => .null
  | 1 => .null
  | 2 => .null
  | 3 => .null
  | 4 => .null
  | 5 => .null
  | 6 => .long 0
  | 7 => .long 0
  | 8 => .long 0
  | _ => .int 0
theorem dfX8_ok : ∀ X' : pX, ∀ j, j < 10 → defaultValue (tyX8 j) = pv X' (dfX8 j) := by
  intro X' j hj
  match j, hj with
  | 0, _ => rfl
  | 1, _ => rfl
  | 2, _ => rfl
  | 3, _ => rfl
  | 4, _ => rfl
  | 5, _ => rfl
  | 6, _ => rfl
  | 7, _ => rfl
  | 8, _ => rfl
  | 9, _ => rfl
  | j + 10, hj => exact absurd hj (by omega)
def dfX9 : Nat → Value := fun k => match k with
  | 0 => .null
  | 1 => .null
  | 2 => .null
  | 3 => .null
  | 4 => .null
  | 5 => .null
  | 6 => .null
  | 7 => .null
  | 8 => .null
  | 9 => .null
  | 10 => .null
  | 11 => .null
  | 12 => .null
  | 13 => .null
  | 14 => .null
  | _ => .int 0
theorem dfX9_ok : ∀ X' : pX, ∀ j, j < 16 → defaultValue (tyX9 j) = pv X' (dfX9 j) := by
  intro X' j hj
  match j, hj with
  | 0, _ => rfl
  | 1, _ => rfl
  | 2, _ => rfl
  | 3, _ => rfl
  | 4, _ => rfl
  | 5, _ => rfl
  | 6, _ => rfl
  | 7, _ => rfl
  | 8, _ => rfl
  | 9, _ => rfl
  | 10, _ => rfl
  | 11, _ => rfl
  | 12, _ => rfl
  | 13, _ => rfl
  | 14, _ => rfl
  | 15, _ => rfl
  | j + 16, hj => exact absurd hj (by omega)
def dfX10 : Nat → Value := fun k => match k with
  | 0 => .int 0
  | 1 => .null
  | 2 => .null
  | 3 => .null
  | 4 => .null
  | 5 => .int 0
  | 6 => .int 0
  | 7 => .null
  | 8 => .int 0
  | 9 => .null
  | 10 => .int 0
  | 11 => .int 0
  | 12 => .null
  | 13 => .int 0
  | 14 => .null
  | 15 => .null
  | 16 => .null
  | 17 => .null
  | 18 => .null
  | 19 => .null
  | 20 => .int 0
  | 21 => .int 0
  | 22 => .int 0
  | 23 => .int 0
  | 24 => .null
  | 25 => .null
  | 26 => .null
  | 27 => .null
  | 28 => .null
  | 29 => .null
  | 30 => .int 0
  | 31 => .null
  | 32 => .null
  | 33 => .null
  | 34 => .null
  | 35 => .null
  | 36 => .int 0
  | 37 => .null
  | 38 => .null
  | 39 => .null
  | 40 => .null
  | 41 => .int 0
  | 42 => .null
  | 43 => .null
  | 44 => .null
  | 45 => .null
  | 46 => .null
  | 47 => .null
  | 48 => .null
  | 49 => .null
  | 50 => .null
  | 51 => .null
  | 52 => .null
  | 53 => .null
  | _ => .int 0
theorem dfX10_ok : ∀ X' : pX, ∀ j, j < 55 → defaultValue (tyX10 j) = pv X' (dfX10 j) := by
  intro X' j hj
  match j, hj with
  | 0, _ => rfl
  | 1, _ => rfl
  | 2, _ => rfl
  | 3, _ => rfl
  | 4, _ => rfl
  | 5, _ => rfl
  | 6, _ => rfl
  | 7, _ => rfl
  | 8, _ => rfl
  | 9, _ => rfl
  | 10, _ => rfl
  | 11, _ => rfl
  | 12, _ => rfl
  | 13, _ => rfl
  | 14, _ => rfl
  | 15, _ => rfl
  | 16, _ => rfl
  | 17, _ => rfl
  | 18, _ => rfl
  | 19, _ => rfl
  | 20, _ => rfl
  | 21, _ => rfl
  | 22, _ => rfl
  | 23, _ => rfl
  | 24, _ => rfl
  | 25, _ => rfl
  | 26, _ => rfl
  | 27, _ => rfl
  | 28, _ => rfl
  | 29, _ => rfl
  | 30, _ => rfl
  | 31, _ => rfl
  | 32, _ => rfl
  | 33, _ => rfl
  | 34, _ => rfl
  | 35, _ => rfl
  | 36, _ => rfl
  | 37, _ => rfl
  | 38, _ => rfl
  | 39, _ => rfl
  | 40, _ => rfl
  | 41, _ => rfl
  | 42, _ => rfl
  | 43, _ => rfl
  | 44, _ => rfl
  | 45, _ => rfl
  | 46, _ => rfl
  | 47, _ => rfl
  | 48, _ => rfl
  | 49, _ => rfl
  | 50, _ => rfl
  | 51, _ => rfl
  | 52, _ => rfl
  | 53, _ => rfl
  | 54, _ => rfl
  | j + 55, hj => exact absurd hj (by omega)
