/-! returns, contracts, calls -/
section RULES
variable {X : pX} {M : pM} {pc : Nat} {ls : List (Option Value)} {st : List Value} {n : Nat} {h : pF} {Q : pO → Nat → pF → Prop} {mc ms : Nat}
theorem r_return (hd : decode M.2.1 pc = .ok (.return_, 1)) (hr : M.2.2.2.1 = none) (hq : Q (.inl none) n h) : gW X M pc ls [] n h Q mc ms :=
  fun l p e R s m args below meth c H locs cells slots lsA QQ C hw hS hl h1 h2 kR kX kN => kR none n h H locs cells slots pc lsA hq hw hS (by omega) (by omega) ⟨hd, hr⟩
theorem r_ireturn {v : Int32} (ty : FieldType) (hd : decode M.2.1 pc = .ok (.ireturn, 1)) (hr : M.2.2.2.1 = some ty) (hn : narrow ty (.int v) = .int v) (hq : Q (.inl (some (.int v))) n h) : gW X M pc ls [.int v] n h Q mc ms :=
  fun l p e R s m args below meth c H locs cells slots lsA QQ C hw hS hl h1 h2 kR kX kN => kR (some (.int v)) n h H locs cells slots pc lsA hq hw hS (by omega) (by omega) ⟨hd, ty, hr, hn⟩
theorem r_lreturn {v : Int64} (hd : decode M.2.1 pc = .ok (.lreturn, 1)) (hr : M.2.2.2.1 = some .long) (hq : Q (.inl (some (.long v))) n h) : gW X M pc ls [.long v] n h Q mc ms :=
  fun l p e R s m args below meth c H locs cells slots lsA QQ C hw hS hl h1 h2 kR kX kN => kR (some (.long v)) n h H locs cells slots pc lsA hq hw hS (by omega) (by omega) ⟨hd, hr⟩
theorem r_freturn {v : UInt32} (hd : decode M.2.1 pc = .ok (.freturn, 1)) (hr : M.2.2.2.1 = some .float) (hq : Q (.inl (some (.float v))) n h) : gW X M pc ls [.float v] n h Q mc ms :=
  fun l p e R s m args below meth c H locs cells slots lsA QQ C hw hS hl h1 h2 kR kX kN => kR (some (.float v)) n h H locs cells slots pc lsA hq hw hS (by omega) (by omega) ⟨hd, hr⟩
theorem r_dreturn {v : UInt64} (hd : decode M.2.1 pc = .ok (.dreturn, 1)) (hr : M.2.2.2.1 = some .double) (hq : Q (.inl (some (.double v))) n h) : gW X M pc ls [.double v] n h Q mc ms :=
  fun l p e R s m args below meth c H locs cells slots lsA QQ C hw hS hl h1 h2 kR kX kN => kR (some (.double v)) n h H locs cells slots pc lsA hq hw hS (by omega) (by omega) ⟨hd, hr⟩
theorem r_areturn {a : Nat} (cn : String) (hd : decode M.2.1 pc = .ok (.areturn, 1)) (hr : M.2.2.2.1 = some (.object cn)) (hq : Q (.inl (some (.ref a))) n h) : gW X M pc ls [.ref a] n h Q mc ms :=
  fun l p e R s m args below meth c H locs cells slots lsA QQ C hw hS hl h1 h2 kR kX kN => kR (some (.ref a)) n h H locs cells slots pc lsA hq hw hS (by omega) (by omega) ⟨hd, cn, hr⟩
theorem r_xreturn {a : Nat} (cn : String) (hd : decode M.2.1 pc = .ok (.areturn, 1)) (hr : M.2.2.2.1 = some (.object cn)) (hq : Q (.inl (some (.retAddr a))) n h) : gW X M pc ls [.retAddr a] n h Q mc ms :=
  fun l p e R s m args below meth c H locs cells slots lsA QQ C hw hS hl h1 h2 kR kX kN => kR (some (.retAddr a)) n h H locs cells slots pc lsA hq hw hS (by omega) (by omega) ⟨hd, cn, hr⟩
/-- a weaker end, more room -/
theorem gW.mono {Q' : pO → Nat → pF → Prop} {mc' ms' : Nat} (k : gW X M pc ls st n h Q mc ms) (hq : ∀ o n' h', Q o n' h' → Q' o n' h') (hm : mc ≤ mc') (hs : ms ≤ ms') : gW X M pc ls st n h Q' mc' ms' :=
  fun l p e R s m args below meth c H locs cells slots lsA QQ C hw hS hl h1 h2 kR kX kN => k l p e R s m args below meth c H locs cells slots lsA QQ C hw hS hl (by omega) (by omega) (fun v n' h' H' locs' cells' slots' pc' ls' q => kR v n' h' H' locs' cells' slots' pc' ls' (hq _ _ _ q)) (fun E q ce n' h' H' locs' cells' slots' pc' ls' rest z => kX E q ce n' h' H' locs' cells' slots' pc' ls' rest (hq _ _ _ z)) (kN.elim (fun z => Or.inl fun E n' h' q => z E n' h' (hq _ _ _ q)) (fun ⟨z1, Qc, XC, z2, z3⟩ => Or.inr ⟨z1, Qc, XC, z2, fun E n' h' t q => z3 E n' h' t (hq _ _ _ q)⟩))
end RULES
/-- the locals at a method's entry -/
def gargs : List Value → List (Option Value)
  | [] => []
  | v :: vs => if v.category = 2 then some v :: none :: gargs vs else some v :: gargs vs
theorem gargs_len (X : pX) (vs : List Value) : (lg_sl (vs.map (pv X))).length = (gargs vs).length := by
  induction vs with
  | nil => rfl
  | cons v vs ih =>
    have e : lg_sl ((v :: vs).map (pv X)) = (if v.category = 2 then [Slot.val (pv X v), .second] else [.val (pv X v)]) ++ lg_sl (vs.map (pv X)) := by
      simp [lg_sl, pv_cat]
    rw [e]
    by_cases c : v.category = 2
    · simp [gargs, c, ih]
    · simp [gargs, c, ih]
theorem gargs_mem (X : pX) (vs : List Value) : ∀ (i j : Nat) (v : Value), (gargs vs)[j]? = some (some v) → (i + j, pv X v) ∈ lv_args i (vs.map (pv X)) := by
  induction vs with
  | nil => intro i j v h; simp [gargs] at h
  | cons w vs ih =>
    intro i j v h
    by_cases c : w.category = 2
    · simp [gargs, c] at h
      match j, h with
      | 0, h => simp at h; subst h; simp [lv_args]
      | 1, h => simp at h
      | j + 2, h =>
        have h' : (gargs vs)[j]? = some (some v) := by simpa using h
        have := ih (i + 2) j v h'
        simp only [List.map_cons, lv_args, pv_cat, c, if_true]
        refine List.mem_cons_of_mem _ ?_
        rw [show i + (j + 2) = i + 2 + j by omega]
        exact this
    · simp [gargs, c] at h
      cases j with
      | zero => simp at h; subst h; simp [lv_args]
      | succ j =>
        have h' : (gargs vs)[j]? = some (some v) := by simpa using h
        have := ih (i + 1) j v h'
        simp only [List.map_cons, lv_args, pv_cat, c, if_false]
        refine List.mem_cons_of_mem _ ?_
        rw [show i + (j + 1) = i + 1 + j by omega]
        exact this
def gent (as : List Value) (nL : Nat) : List (Option Value) := gargs as ++ List.replicate (nL - (gargs as).length) none
theorem gC_of {X : pX} {M : pM} {as : List Value} {n : Nat} {h : pF} {Q : pO → Nat → pF → Prop} {mc ms : Nat} (hy : plainName M.1.cls = true) (hlen : (gargs as).length ≤ M.2.2.1) (htb : pTab M.1 = []) (k : gW X M 0 (gent as M.2.2.1) [] n h Q mc ms) : gC X M as n h Q mc ms := by
  intro l hl0
  refine vx_ofW (cc := M.2.1) (maxL := M.2.2.1) (ret := M.2.2.2.1) hy rfl ?_
  intro p e s m args below meth c s₁ B hml hout hv
  obtain ⟨rfl, hw, hk⟩ := hv
  have hts := atoms_spec (ws := gws M) B.pre
  have C : gCx X M l p (headSpec (gws M) { frames := M.2.2.2.2.1, cells := mc, slots := ms, locals := M.2.2.2.2.2 }).room s m (as.map (pv X)).toArray meth c :=
    ⟨B.exec, B.bytes, hml, B.returns, B.notSynchronized, (name_of_methodNamed B.named B.method).1, findClass_of_methodNamed B.named, fun w hw => hts w (List.mem_cons_of_mem _ hw), Nat.le_refl _, Nat.le_refl _, hl0, hk, by rw [htb]; exact List.eq_nil_iff_forall_not_mem.mpr (fun x hx => hout x hx)⟩
  have hlv := lv_entry (as.map (pv X)) (n := M.2.2.1) (by rw [gargs_len]; exact hlen)
  rw [lg_entry_eq]
  generalize (lg_sl (as.map (pv X)) ++ List.replicate (M.2.2.1 - (lg_sl (as.map (pv X))).length) Slot.unset).toArray = lsA at hlv ⊢
  have hl : gL X lsA M.2.2.1 (gent as M.2.2.1) := by
    refine ⟨hlv.1, hlv.2.1, fun i v hi => ?_⟩
    have hg : (gargs as)[i]? = some (some v) := by
      unfold gent at hi
      rw [List.getElem?_append] at hi
      by_cases c : i < (gargs as).length
      · rw [if_pos c] at hi; exact hi
      · rw [if_neg c] at hi
        have := List.mem_of_getElem? hi
        simp at this
    have := gargs_mem X as 0 i v hg
    rw [Nat.zero_add] at this
    exact hlv.2.2 _ this
  have hkk := k l p e _ s m _ below meth c s.heap [] 0 0 lsA (vx_MQ below (gQ X Q) (gXc X Q) (as.map (pv X)).toArray s mc ms (pA X)) C hw va_S.rf hl (by show 0 + mc ≤ mc; omega) (by show 0 + ms ≤ ms; omega) ?_ ?_ (Or.inr ⟨hout, _, _, rfl, fun E n' h' t hq hw' hF => ⟨n', h', hq, hw', hF⟩⟩)
  · exact hkk
  · intro v n' h' H' locs' cells' slots' pc' ls' hq hw' hS' hc hs hr
    refine vx_ret (W.widen (k := mc) (n := ms) hc hs ?_)
    have hP : ∀ t : State, t.heap = H' → s.WarmedH t.vm → gQ X Q (as.map (pv X)).toArray s (.returned (v.map (pv X))) t := fun t ht _ => ⟨v, n', h', rfl, hq, by rw [ht]; exact hw', hS'.F ht⟩
    have hf : ∀ q ∈ locs', pA X q.base := hS'.2.2
    have hlk : meth.locks = false := B.notSynchronized
    cases v with
    | none => exact W.vret C.1 C.2.1 (C.2.2.2.1.trans hr.2) hP hf hr.1 hlk
    | some v =>
      cases v with
      | int x => obtain ⟨d, ty, e1, e2⟩ := hr; exact W.zret C.1 C.2.1 (C.2.2.2.1.trans e1) e2 hP hf d hlk
      | long x => exact W.lret C.1 C.2.1 (C.2.2.2.1.trans hr.2) hP hf hr.1 hlk
      | float x => exact W.fret C.1 C.2.1 (C.2.2.2.1.trans hr.2) hP hf hr.1 hlk
      | double x => exact W.dret C.1 C.2.1 (C.2.2.2.1.trans hr.2) hP hf hr.1 hlk
      | null => obtain ⟨d, cn, e1⟩ := hr; exact W.aret C.1 C.2.1 (C.2.2.2.1.trans e1) (Or.inl ⟨cn, rfl⟩) (Or.inl rfl) hP hf d hlk
      | ref a => obtain ⟨d, cn, e1⟩ := hr; exact W.aret C.1 C.2.1 (C.2.2.2.1.trans e1) (Or.inl ⟨cn, rfl⟩) (Or.inr ⟨_, rfl⟩) hP hf d hlk
      | retAddr a => obtain ⟨d, cn, e1⟩ := hr; exact W.aret C.1 C.2.1 (C.2.2.2.1.trans e1) (Or.inl ⟨cn, rfl⟩) (Or.inr ⟨_, rfl⟩) hP hf d hlk
  · intro E q ce n' h' H' locs' cells' slots' pc' ls' rest hq hw' hS' hce hcv hcl hc hs
    exact vx_out (fun x hx => (hout x hx).elim) B.notSynchronized hce hcv hcl (fun t ht _ => ⟨n', h', hq, by rw [ht]; exact hw', hS'.F ht⟩) hS'.2.2 hc hs
theorem gws_good {M : pM} (h : Cond.code M.1 M.2.1 M.2.2.1 M.2.2.2.1 ∈ gT) : GoodIn gT (gws M) := by
  have hg : ∀ w ∈ gT, (w.onTables && w.keeps) = true ∨ ∃ ty, w = .arrayClass ty := fun w hw => good_of_word (List.mem_filter.mp hw).2
  intro w hw
  rcases List.mem_cons.mp hw with rfl | hw
  · exact ⟨h, hg _ h⟩
  · exact ⟨hw, hg _ hw⟩
theorem gP_blind {X : pX} {as : List Value} {n : Nat} {h : pF} : FrameBlind (gP X as n h) := by
  intro a U g mk ⟨h1, h2, h3⟩
  exact ⟨h1, h2, pk_step (U := U.calling g mk a) (locs := []) h3 (State.WarmedH.refl U) rfl va_S.rf⟩
theorem pw_recv {X : pX} {n : Nat} {h : pF} {H : Heap} {s : State} {a ci : Nat} {f : Nat → Value} {cn : String} (hw : pw X n h H) (hk : pk X s) (ha : a < n) (hc : h a = .inr (ci, f)) (hcl : (vwCl[ci]?).map (fun q => q.1) = some cn) : ∃ cell : Cell, H[X.1 + a]? = some cell ∧ cell.vm.isStatics = false ∧ s.vm.findClass cn = some cell.cls := by
  have hp := hw.2 a ha
  rw [hc] at hp
  cases e : vwCl[ci]? with
  | none => rw [e] at hcl; cases hcl
  | some r =>
    rw [e] at hcl
    obtain ⟨cell, q1, q2, q3, -⟩ := hp r e
    refine ⟨cell, q1, by rw [q3]; rfl, ?_⟩
    have := (hk.1.1 ci r e).2.1
    rw [q2]
    cases hcl
    exact this
section RULES
variable {X : pX} {M : pM} {pc : Nat} {ls : List (Option Value)} {st : List Value} {n : Nat} {h : pF} {Q : pO → Nat → pF → Prop} {mc ms : Nat}
theorem g_cat (X : pX) (st : List Value) : ((st.map (pv X)).map fun v => v.category) = st.map fun v => v.category := by
  simp [pv_cat]
theorem r_callV {idx : Nat} (M' : pM) (ci : Nat) (as : List Value) {a k : Nat} {f : Nat → Value} {S : List Value} {Q' : pO → Nat → pF → Prop} {mc1 ms1 mc2 ms2 : Nat} (hd : decode M.2.1 pc = .ok (.invokevirtual idx, 3)) (hlk : Cond.methodLink M.1.cls idx M'.1 ∈ gT) (hm : gMth M' k) (hi : Cond.instanceMethod M'.1 ∈ gT ∧ Cond.selects M'.1.cls M'.1 M'.1 ∈ gT)
    (hroom : M'.2.2.2.2.1 + 1 ≤ M.2.2.2.2.1 ∧ 8 + (M'.2.2.1 + 11) + M'.2.2.2.2.2 ≤ M.2.2.2.2.2) (hcl : (vwCl[ci]?).map (fun q => q.1) = some M'.1.cls) (hS0 : S = as.reverse ++ .ref a :: st) (hk : as.length = k) (hcat : (st.map fun v => v.category).sum ≤ 8) (ha : a < n) (hc : h a = .inr (ci, f)) (hmc : mc1 + mc2 ≤ mc) (hms : ms1 + ms2 ≤ ms)
    (hC : gC X M' (.ref a :: as) n h Q' mc1 ms1) (kk : ∀ (v : Option Value) (n' : Nat) (h' : pF), Q' (.inl v) n' h' → gW X M (pc + 3) ls (v.toList ++ st) n' h' Q mc2 ms2) (kx : ∀ (E : String) (n' : Nat) (h' : pF), Q' (.inr E) n' h' → Q (.inr E) n' h') : gW X M pc ls S n h Q mc ms := by
  intro l p e R s m args below meth c H locs cells slots lsA QQ C hw hS hl h1 h2 kR kX kN
  subst hS0
  have hrun := vx_runV (As := as.map (pv X)) (rest := st.map (pv X)) (g := F0 m pc lsA ((as.reverse ++ .ref a :: st).map (pv X))) (b := X.1 + a) (C := M'.1.cls) (H := H) (below := below) (e := e) (locs := locs) (cells := cells) (slots := slots) (meth := meth) (nL := M.2.2.1) ⟨C.1, C.2.1, C.2.2.1, gCx_own C, gCx_ts C⟩ (hC l C.2.2.2.2.2.2.2.2.2.2.1)
    (R := R) (index := idx) (n := k) (bytes := M'.2.1) (maxL := M'.2.2.1) (ret := M'.2.2.2.1) ⟨callB_of k (gCx_ts C) (gws_good hm.1) rfl rfl rfl (gCx_ts C _ hm.2.1) (gCx_ts C _ hlk) hm.2.2 ⟨Nat.le_trans hroom.1 C.2.2.2.2.2.2.2.2.1, Nat.le_trans hroom.2 C.2.2.2.2.2.2.2.2.2.1⟩, gCx_ts C _ hi.1, gCx_ts C _ hi.2⟩
    ⟨gP_blind, pw_recv hw (gCx_k C) ha hc hcl, fun U hU hW => ⟨rfl, by rw [hU]; exact hw, pk_step (gCx_k C) hW hU hS⟩⟩ rfl (by rw [List.length_map]; exact hk) hl.1 (by simp [F0, pv]) (by rw [g_cat]; show 2 * 0 + _ ≤ 8; omega) hd ⟨by omega, by omega⟩
  intro T hT XT
  rcases hrun T hT XT with ⟨v, st₀, t, T', L, h0, X', hL, e1, e2, ⟨v', n', h', hv, hq, hw', hF⟩, stp⟩ | ⟨q, st₀, t, T', L, E, ce, h0, X', hL, e1, e2, ⟨n', h', hq, hw', hF⟩, hce, hcv, hcl', stp⟩
  · obtain ⟨k1, k2, k3⟩ := vx_keep h0 e1 hS (fun _ _ z => z) (fun _ z => z) hL hF
    cases hv
    obtain ⟨t2, a1, b1⟩ := kk v' n' h' hq l p e R s m args below meth c T'.heap (locs ++ L) (cells + mc1) (slots + ms1) lsA QQ C (by rw [e1]; exact hw') k3 hl (by omega) (by omega) kR kX kN T' rfl X'
    refine ⟨t2, stp t2 ?_, b1⟩
    have e9 : (v'.map (pv X)).toList ++ st.map (pv X) = (v'.toList ++ st).map (pv X) := by cases v' <;> simp
    rw [e9]
    exact a1
  · obtain ⟨k1, k2, k3⟩ := vx_keep h0 e1 hS (fun _ _ z => z) (fun _ z => z) hL hF
    obtain ⟨t2, a1, b1⟩ := kX E q ce n' h' T'.heap (locs ++ L) (cells + mc1) (slots + ms1) pc lsA (st.map (pv X)) (kx E n' h' hq) (by rw [e1]; exact hw') k3 (by rw [e1]; exact hce) hcv hcl' (by omega) (by omega) T' rfl X'
    exact ⟨t2, stp.trans a1, b1⟩
end RULES
