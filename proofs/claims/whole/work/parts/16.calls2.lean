/-! further calls -/
theorem met_of {l : Launch} {y : MethodName} {ws : List Cond} {rm : Room} {Pc : Array Value → State → Prop} {Qc : Array Value → State → Outcome → State → Prop} {XC : String → State → State → Prop} {mc ms : Nat} {free : Addr → Prop} (hM : vx_Met l y ws rm Pc Qc XC mc ms free) (hx : ∀ E st t, ¬ XC E st t) : Met l y ws rm Pc Qc mc ms free := by
  intro p e ha hc hk s m args below hf happ hP hK
  obtain ⟨k, o, h1, h2, h3, hQ⟩ := hM p e ha hc hk s m args below hf happ hP hK
  refine ⟨k, o, h1, h2, h3, ?_⟩
  rcases hQ with hQ | ⟨q, ho, E, ce, L, hx', -⟩
  · exact hQ
  · exact absurd hx' (hx _ _ _)
theorem gC_met {X : pX} {M : pM} {as : List Value} {n : Nat} {h : pF} {Q : pO → Nat → pF → Prop} {mc ms : Nat} (hC : gC X M as n h Q mc ms) (kx : ∀ (E : String) (n' : Nat) (h' : pF), ¬ Q (.inr E) n' h') (l : Launch) (hl : l.stackTraces = false) : Met l M.1 (gws M) { frames := M.2.2.2.2.1, cells := mc, slots := ms, locals := M.2.2.2.2.2 } (gP X as n h) (gQ X Q) mc ms (pA X) :=
  met_of (hC l hl) (fun E st t ⟨n', h', q, _⟩ => kx E n' h' q)
section RULES
variable {X : pX} {M : pM} {pc : Nat} {ls : List (Option Value)} {st : List Value} {n : Nat} {h : pF} {Q : pO → Nat → pF → Prop} {mc ms : Nat}
/-- behind a call that can't throw -/
theorem r_back {S : List Value} {as rest0 : List Value} {Q' : pO → Nat → pF → Prop} {mc1 ms1 mc2 ms2 : Nat} (hmc : mc1 + mc2 ≤ mc) (hms : ms1 + ms2 ≤ ms) (kk : ∀ (v : Option Value) (n' : Nat) (h' : pF), Q' (.inl v) n' h' → gW X M (pc + 3) ls (v.toList ++ st) n' h' Q mc2 ms2)
    (hr : ∀ (l : Launch) (p : Program) (e : Env) (R : Room) (s : State) (m : MethodId) (args : Array Value) (below : List Frame) (meth : Method) (c : Code) (H : Heap) (locs : List Loc) (cells slots : Nat) (lsA : Array Slot), gCx X M l p R s m args meth c → pw X n h H → va_S (pA X) s.heap H locs → gL X lsA M.2.2.1 ls → cells + mc ≤ R.cells → slots + ms ≤ R.slots →
      ∃ a, va_Run p l e R s m args below meth c H locs cells slots mc1 ms1 (F0 m pc lsA (S.map (pv X))) (st.map (pv X)) (gQ X Q' a) (pA X)) : gW X M pc ls S n h Q mc ms := by
  intro l p e R s m args below meth c H locs cells slots lsA QQ C hw hS hl h1 h2 kR kX kN
  obtain ⟨a, hrun⟩ := hr l p e R s m args below meth c H locs cells slots lsA C hw hS hl h1 h2
  intro T hT XT
  obtain ⟨v, st₀, t, T', L, h0, X', hL, e1, e2, ⟨v', n', h', hv, hq, hw', hF⟩, stp⟩ := hrun T hT XT
  obtain ⟨k1, k2, k3⟩ := vx_keep h0 e1 hS (fun _ _ z => z) (fun _ z => z) hL hF
  cases hv
  obtain ⟨t2, a1, b1⟩ := kk v' n' h' hq l p e R s m args below meth c T'.heap (locs ++ L) (cells + mc1) (slots + ms1) lsA QQ C (by rw [e1]; exact hw') k3 hl (by omega) (by omega) kR kX kN T' rfl X'
  refine ⟨t2, stp t2 ?_, b1⟩
  have e9 : (v'.map (pv X)).toList ++ st.map (pv X) = (v'.toList ++ st).map (pv X) := by cases v' <;> simp
  rw [e9]
  exact a1
theorem r_callS {idx : Nat} (M' : pM) (as : List Value) {k : Nat} {S : List Value} {Q' : pO → Nat → pF → Prop} {mc1 ms1 mc2 ms2 : Nat} (hd : decode M.2.1 pc = .ok (.invokestatic idx, 3)) (hlk : Cond.methodLink M.1.cls idx M'.1 ∈ gT) (hm : gMth M' k) (hi : Cond.static M'.1 ∈ gT)
    (hroom : M'.2.2.2.2.1 + 1 ≤ M.2.2.2.2.1 ∧ 8 + (M'.2.2.1 + 11) + M'.2.2.2.2.2 ≤ M.2.2.2.2.2) (hS0 : S = as.reverse ++ st) (hk : as.length = k) (hcat : (st.map fun v => v.category).sum ≤ 8) (hmc : mc1 + mc2 ≤ mc) (hms : ms1 + ms2 ≤ ms)
    (hC : gC X M' as n h Q' mc1 ms1) (kx : ∀ (E : String) (n' : Nat) (h' : pF), ¬ Q' (.inr E) n' h') (kk : ∀ (v : Option Value) (n' : Nat) (h' : pF), Q' (.inl v) n' h' → gW X M (pc + 3) ls (v.toList ++ st) n' h' Q mc2 ms2) : gW X M pc ls S n h Q mc ms := by
  refine r_back (as := as) (rest0 := st) hmc hms kk ?_
  intro l p e R s m args below meth c H locs cells slots lsA C hw hS hl h1 h2
  subst hS0
  exact ⟨_, va_runS (As := as.map (pv X)) (rest := st.map (pv X)) (g := F0 m pc lsA ((as.reverse ++ st).map (pv X))) (H := H) (nL := M.2.2.1) ⟨C.1, C.2.1, C.2.2.1, gCx_own C, gCx_ts C⟩ (gC_met hC kx l C.2.2.2.2.2.2.2.2.2.2.1)
    (R := R) (index := idx) (n := k) (bytes := M'.2.1) (maxL := M'.2.2.1) (ret := M'.2.2.2.1) ⟨callB_of k (gCx_ts C) (gws_good hm.1) rfl rfl rfl (gCx_ts C _ hm.2.1) (gCx_ts C _ hlk) hm.2.2 ⟨Nat.le_trans hroom.1 C.2.2.2.2.2.2.2.2.1, Nat.le_trans hroom.2 C.2.2.2.2.2.2.2.2.2.1⟩, gCx_ts C _ hi⟩
    ⟨gP_blind, fun U hU hW => ⟨rfl, by rw [hU]; exact hw, pk_step (gCx_k C) hW hU hS⟩⟩ rfl (by rw [List.length_map]; exact hk) hl.1 (by simp [F0]) (by rw [g_cat]; show 2 * 0 + _ ≤ 8; omega) hd ⟨by omega, by omega⟩⟩
theorem r_callSN {idx : Nat} (M' : pM) (as : List Value) {k : Nat} {S : List Value} {Q' : pO → Nat → pF → Prop} {mc1 ms1 mc2 ms2 : Nat} (hd : decode M.2.1 pc = .ok (.invokestatic idx, 3)) (hlk : (M.1.cls, idx, M'.1) ∈ pNest) (hm : gMth M' k) (hi : Cond.static M'.1 ∈ gT)
    (hroom : M'.2.2.2.2.1 + 1 ≤ M.2.2.2.2.1 ∧ 8 + (M'.2.2.1 + 11) + M'.2.2.2.2.2 ≤ M.2.2.2.2.2) (hS0 : S = as.reverse ++ st) (hk : as.length = k) (hcat : (st.map fun v => v.category).sum ≤ 8) (hmc : mc1 + mc2 ≤ mc) (hms : ms1 + ms2 ≤ ms)
    (hC : gC X M' as n h Q' mc1 ms1) (kx : ∀ (E : String) (n' : Nat) (h' : pF), ¬ Q' (.inr E) n' h') (kk : ∀ (v : Option Value) (n' : Nat) (h' : pF), Q' (.inl v) n' h' → gW X M (pc + 3) ls (v.toList ++ st) n' h' Q mc2 ms2) : gW X M pc ls S n h Q mc ms := by
  refine r_back (as := as) (rest0 := st) hmc hms kk ?_
  intro l p e R s m args below meth c H locs cells slots lsA C hw hS hl h1 h2
  subst hS0
  exact ⟨_, va_runSN (As := as.map (pv X)) (rest := st.map (pv X)) (g := F0 m pc lsA ((as.reverse ++ st).map (pv X))) (H := H) (nL := M.2.2.1) ⟨C.1, C.2.1, C.2.2.1, gCx_own C, gCx_ts C⟩ (gC_met hC kx l C.2.2.2.2.2.2.2.2.2.2.1)
    (R := R) (index := idx) (n := k) (bytes := M'.2.1) (maxL := M'.2.2.1) (ret := M'.2.2.2.1) ⟨va_cnB k (gCx_ts C) (gws_good hm.1) rfl rfl rfl ((gCx_k C).2.2.2.2.2.2.2.2.2.1 _ hlk) (gCx_ts C _ hm.2.1) hm.2.2 ⟨Nat.le_trans hroom.1 C.2.2.2.2.2.2.2.2.1, Nat.le_trans hroom.2 C.2.2.2.2.2.2.2.2.2.1⟩, gCx_ts C _ hi, trivial⟩
    ⟨gP_blind, fun U hU hW => ⟨rfl, by rw [hU]; exact hw, pk_step (gCx_k C) hW hU hS⟩⟩ rfl (by rw [List.length_map]; exact hk) hl.1 (by simp [F0]) (by rw [g_cat]; show 2 * 0 + _ ≤ 8; omega) hd ⟨by omega, by omega⟩⟩
theorem r_callI {idx : Nat} (M' : pM) {a : Nat} {Q' : pO → Nat → pF → Prop} {mc1 ms1 mc2 ms2 : Nat} (hd : decode M.2.1 pc = .ok (.invokespecial idx, 3)) (hlk : Cond.methodLink M.1.cls idx M'.1 ∈ gT) (hm : gMth M' 0) (hi : Cond.instanceMethod M'.1 ∈ gT) (hnm : M'.1.name = "<init>") (hrt : M'.2.2.2.1 = none)
    (hroom : M'.2.2.2.2.1 + 1 ≤ M.2.2.2.2.1 ∧ 8 + (M'.2.2.1 + 11) + M'.2.2.2.2.2 ≤ M.2.2.2.2.2) (hcat : (st.map fun v => v.category).sum ≤ 8) (hmc : mc1 + mc2 ≤ mc) (hms : ms1 + ms2 ≤ ms)
    (hC : gC X M' [.ref a] n h Q' mc1 ms1) (kx : ∀ (E : String) (n' : Nat) (h' : pF), ¬ Q' (.inr E) n' h') (kk : ∀ (v : Option Value) (n' : Nat) (h' : pF), Q' (.inl v) n' h' → gW X M (pc + 3) ls (v.toList ++ st) n' h' Q mc2 ms2) : gW X M pc ls (.ref a :: st) n h Q mc ms := by
  refine r_back (as := []) (rest0 := st) hmc hms kk ?_
  intro l p e R s m args below meth c H locs cells slots lsA C hw hS hl h1 h2
  exact ⟨_, va_runI (As := []) (b := X.1 + a) (rest := st.map (pv X)) (g := F0 m pc lsA ((.ref a :: st).map (pv X))) (H := H) (nL := M.2.2.1) ⟨C.1, C.2.1, C.2.2.1, gCx_own C, gCx_ts C⟩ (gC_met hC kx l C.2.2.2.2.2.2.2.2.2.2.1)
    (R := R) (index := idx) (n := 0) (bytes := M'.2.1) (maxL := M'.2.2.1) ⟨by rw [← hrt]; exact callB_of 0 (gCx_ts C) (gws_good hm.1) rfl rfl rfl (gCx_ts C _ hm.2.1) (gCx_ts C _ hlk) hm.2.2 ⟨Nat.le_trans hroom.1 C.2.2.2.2.2.2.2.2.1, Nat.le_trans hroom.2 C.2.2.2.2.2.2.2.2.2.1⟩, hnm, gCx_ts C _ hi⟩
    ⟨gP_blind, fun U hU hW => ⟨rfl, by rw [hU]; exact hw, pk_step (gCx_k C) hW hU hS⟩⟩ rfl rfl hl.1 (by simp [F0, pv]) (by rw [g_cat]; show 2 * 0 + _ ≤ 8; omega) hd ⟨by omega, by omega⟩⟩
theorem r_callIN {idx : Nat} (M' : pM) {a : Nat} {Q' : pO → Nat → pF → Prop} {mc1 ms1 mc2 ms2 : Nat} (hd : decode M.2.1 pc = .ok (.invokespecial idx, 3)) (hlk : (M.1.cls, idx, M'.1) ∈ pNest) (hm : gMth M' 0) (hi : Cond.instanceMethod M'.1 ∈ gT) (hnm : M'.1.name = "<init>") (hrt : M'.2.2.2.1 = none)
    (hroom : M'.2.2.2.2.1 + 1 ≤ M.2.2.2.2.1 ∧ 8 + (M'.2.2.1 + 11) + M'.2.2.2.2.2 ≤ M.2.2.2.2.2) (hcat : (st.map fun v => v.category).sum ≤ 8) (hmc : mc1 + mc2 ≤ mc) (hms : ms1 + ms2 ≤ ms)
    (hC : gC X M' [.ref a] n h Q' mc1 ms1) (kx : ∀ (E : String) (n' : Nat) (h' : pF), ¬ Q' (.inr E) n' h') (kk : ∀ (v : Option Value) (n' : Nat) (h' : pF), Q' (.inl v) n' h' → gW X M (pc + 3) ls (v.toList ++ st) n' h' Q mc2 ms2) : gW X M pc ls (.ref a :: st) n h Q mc ms := by
  refine r_back (as := []) (rest0 := st) hmc hms kk ?_
  intro l p e R s m args below meth c H locs cells slots lsA C hw hS hl h1 h2
  exact ⟨_, va_runIN (As := []) (b := X.1 + a) (rest := st.map (pv X)) (g := F0 m pc lsA ((.ref a :: st).map (pv X))) (H := H) (nL := M.2.2.1) ⟨C.1, C.2.1, C.2.2.1, gCx_own C, gCx_ts C⟩ (gC_met hC kx l C.2.2.2.2.2.2.2.2.2.2.1)
    (R := R) (index := idx) (n := 0) (bytes := M'.2.1) (maxL := M'.2.2.1) ⟨by rw [← hrt]; exact va_cnB 0 (gCx_ts C) (gws_good hm.1) rfl rfl rfl ((gCx_k C).2.2.2.2.2.2.2.2.2.1 _ hlk) (gCx_ts C _ hm.2.1) hm.2.2 ⟨Nat.le_trans hroom.1 C.2.2.2.2.2.2.2.2.1, Nat.le_trans hroom.2 C.2.2.2.2.2.2.2.2.2.1⟩, hnm, gCx_ts C _ hi⟩
    ⟨gP_blind, fun U hU hW => ⟨rfl, by rw [hU]; exact hw, pk_step (gCx_k C) hW hU hS⟩⟩ rfl rfl hl.1 (by simp [F0, pv]) (by rw [g_cat]; show 2 * 0 + _ ≤ 8; omega) hd ⟨by omega, by omega⟩⟩
theorem r_objInit {idx a : Nat} (hd : decode M.2.1 pc = .ok (.invokespecial idx, 3)) (hlk : Cond.methodLink M.1.cls idx Lib.objectInit ∈ gT) (hi : Cond.instanceMethod Lib.objectInit ∈ gT) (hc : Cond.code Lib.objectInit ⟨#[0xb1]⟩ 1 none ∈ gT) (hroom : 1 ≤ M.2.2.2.2.1 ∧ (st.map fun v => v.category).sum + 12 ≤ M.2.2.2.2.2) (k : gW X M (pc + 3) ls st n h Q mc ms) : gW X M pc ls (.ref a :: st) n h Q mc ms := by
  intro l p e R s m args below meth c H locs cells slots lsA QQ C hw hS hl h1 h2 kR kX kN
  refine W.objInit C.1 C.2.1 (gCx_own C) (gCx_ts C _ hlk) (gCx_ts C _ hi) (gCx_ts C _ hc) rfl (by show lsA.size = _; rw [C.2.2.1]; exact hl.1) (a := X.1 + a) (rest := st.map (pv X)) rfl hd (Nat.le_trans hroom.1 C.2.2.2.2.2.2.2.2.1) (by rw [g_cat]; have := C.2.2.2.2.2.2.2.2.2.1; show 2 * 0 + _ + 12 ≤ _; omega) (k l p e R s m args below meth c H locs cells slots lsA QQ C hw hS hl h1 h2 kR kX kN)
theorem r_max {idx : Nat} {x y : Int32} (hd : decode M.2.1 pc = .ok (.invokestatic idx, 3)) (hlk : Cond.methodLink M.1.cls idx Lib.Math.max.name ∈ gT) (hst : Cond.static Lib.Math.max.name ∈ gT) (hini : Cond.initialized "java/lang/Math" ∈ gT) (hc : Cond.code Lib.Math.max.name Lib.Math.max.code 2 (some .int) ∈ gT) (hroom : 1 ≤ M.2.2.2.2.1 ∧ (st.map fun v => v.category).sum + 13 ≤ M.2.2.2.2.2) (k : gW X M (pc + 3) ls (.int (if x < y then y else x) :: st) n h Q mc ms) : gW X M pc ls (.int y :: .int x :: st) n h Q mc ms := by
  intro l p e R s m args below meth c H locs cells slots lsA QQ C hw hS hl h1 h2 kR kX kN
  exact va_mmax C.1 C.2.1 (by rw [C.2.2.1]; exact hl.1.symm) (gCx_own C) (gCx_ts C _ hlk) (gCx_ts C _ hst) (gCx_ts C _ hini) (gCx_ts C _ hc) (Nat.le_trans hroom.1 C.2.2.2.2.2.2.2.2.1) (by rw [g_cat]; have := C.2.2.2.2.2.2.2.2.2.1; omega) (by omega) (by omega) hd (k l p e R s m args below meth c H locs cells slots lsA QQ C hw hS hl h1 h2 kR kX kN)
end RULES
