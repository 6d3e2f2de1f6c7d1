/-! methods with a table: the exceptions of a call are caught and answered by a number -/
def gCatch (M : pM) (pc : Nat) (E : String) (hp : Nat) : Prop := ∃ (pre : List ExceptionTableEntry) (x : ExceptionTableEntry) (suf : List ExceptionTableEntry), tableOf (pTab M.1) = pre ++ x :: suf ∧ (∀ z ∈ pre, z.catchType ≠ 0 ∧ ∃ nm : String, Cond.classLink M.1.cls z.catchType nm ∈ gT ∧ (E, nm) ∈ pNc) ∧ covers x pc = true ∧ x.catchType ≠ 0 ∧ Cond.classLink M.1.cls x.catchType E ∈ gT ∧ (E, E) ∈ pCast ∧ x.handlerPc = hp
def gHand (M : pM) (hp : Nat) (k : Int32) : Prop := M.2.2.2.1 = some .int ∧ ∃ (z : Int) (pc2 : Nat), Int32.ofInt z = k ∧ decode M.2.1 pc2 = .ok (.iconst z, 1) ∧ decode M.2.1 (pc2 + 1) = .ok (.ireturn, 1) ∧
  ((∃ i : Fin 4, decode M.2.1 hp = .ok (.astore_n i, 1) ∧ (i : Nat) < M.2.2.1 ∧ pc2 = hp + 1) ∨ ∃ i : Nat, decode M.2.1 hp = .ok (.astore i, 2) ∧ i < M.2.2.1 ∧ pc2 = hp + 2)
def gwsW (M : pM) : List Cond := .codeWith M.1 M.2.1 M.2.2.1 M.2.2.2.1 (pTab M.1) :: gT
/-- the contract of a method with a table that throws nothing -/
def gCW (X : pX) (M : pM) (as : List Value) (n : Nat) (h : pF) (Q : pO → Nat → pF → Prop) (mc ms : Nat) : Prop :=
  ∀ l : Launch, l.stackTraces = false → Met l M.1 (gwsW M) { frames := M.2.2.2.2.1, cells := mc, slots := ms, locals := M.2.2.2.2.2 } (gP X as n h) (gQ X Q) mc ms (pA X)
theorem gCW_of {X : pX} {M : pM} {as : List Value} {n : Nat} {h : pF} {Q : pO → Nat → pF → Prop} {mc ms : Nat} (hy : plainName M.1.cls = true) (hlen : (gargs as).length ≤ M.2.2.1) (hnx : ∀ (E : String) (n' : Nat) (h' : pF), ¬ Q (.inr E) n' h') (k : gW X M 0 (gent as M.2.2.1) [] n h Q mc ms) : gCW X M as n h Q mc ms := by
  intro l hl0
  refine met_of (XC := fun _ _ _ => False) ?_ (fun _ _ _ h => h)
  refine vx_ofWH (cc := M.2.1) (maxL := M.2.2.1) (ret := M.2.2.2.1) (hh := pTab M.1) hy rfl ?_
  intro p e s m args below meth c s₁ B hml hv
  obtain ⟨rfl, hw, hk⟩ := hv
  have hts := atoms_spec (ws := gwsW M) B.pre
  have htab : c.exceptionTable.toList = tableOf (pTab M.1) := vx_table (x := M.1) B (hts _ List.mem_cons_self)
  have C : gCx X M l p (headSpec (gwsW M) { frames := M.2.2.2.2.1, cells := mc, slots := ms, locals := M.2.2.2.2.2 }).room s m (as.map (pv X)).toArray meth c :=
    ⟨B.exec, B.bytes, hml, B.returns, B.notSynchronized, (name_of_methodNamed B.named B.method).1, findClass_of_methodNamed B.named, fun w hw => hts w (List.mem_cons_of_mem _ hw), Nat.le_refl _, Nat.le_refl _, hl0, hk, htab⟩
  have hlv := lv_entry (as.map (pv X)) (n := M.2.2.1) (by rw [gargs_len]; exact hlen)
  rw [lg_entry_eq]
  generalize (lg_sl (as.map (pv X)) ++ List.replicate (M.2.2.1 - (lg_sl (as.map (pv X))).length) Slot.unset).toArray = lsA at hlv ⊢
  have hl : gL X lsA M.2.2.1 (gent as M.2.2.1) := by
    refine ⟨hlv.1, hlv.2.1, fun i v hi => ?_⟩
    have hg : (gargs as)[i]? = some (some v) := by
      unfold gent at hi
      rw [List.getElem?_append] at hi
      by_cases c : i < (gargs as).length
      · rw [if_pos c] at hi; exact hi
      · rw [if_neg c] at hi
        have := List.mem_of_getElem? hi
        simp at this
    have := gargs_mem X as 0 i v hg
    rw [Nat.zero_add] at this
    exact hlv.2.2 _ this
  have hkk := k l p e _ s m _ below meth c s.heap [] 0 0 lsA (vx_MQ below (gQ X Q) (fun _ _ _ => False) (as.map (pv X)).toArray s mc ms (pA X)) C hw va_S.rf hl (by show 0 + mc ≤ mc; omega) (by show 0 + ms ≤ ms; omega) ?_ ?_ (Or.inl hnx)
  · exact hkk
  · intro v n' h' H' locs' cells' slots' pc' ls' hq hw' hS' hc hs hr
    refine vx_ret (W.widen (k := mc) (n := ms) hc hs ?_)
    have hP : ∀ t : State, t.heap = H' → s.WarmedH t.vm → gQ X Q (as.map (pv X)).toArray s (.returned (v.map (pv X))) t := fun t ht _ => ⟨v, n', h', rfl, hq, by rw [ht]; exact hw', hS'.F ht⟩
    have hf : ∀ q ∈ locs', pA X q.base := hS'.2.2
    have hlk : meth.locks = false := B.notSynchronized
    cases v with
    | none => exact W.vret C.1 C.2.1 (C.2.2.2.1.trans hr.2) hP hf hr.1 hlk
    | some v =>
      cases v with
      | int x => obtain ⟨d, ty, e1, e2⟩ := hr; exact W.zret C.1 C.2.1 (C.2.2.2.1.trans e1) e2 hP hf d hlk
      | long x => exact W.lret C.1 C.2.1 (C.2.2.2.1.trans hr.2) hP hf hr.1 hlk
      | float x => exact W.fret C.1 C.2.1 (C.2.2.2.1.trans hr.2) hP hf hr.1 hlk
      | double x => exact W.dret C.1 C.2.1 (C.2.2.2.1.trans hr.2) hP hf hr.1 hlk
      | null => obtain ⟨d, cn, e1⟩ := hr; exact W.aret C.1 C.2.1 (C.2.2.2.1.trans e1) (Or.inl ⟨cn, rfl⟩) (Or.inl rfl) hP hf d hlk
      | ref a => obtain ⟨d, cn, e1⟩ := hr; exact W.aret C.1 C.2.1 (C.2.2.2.1.trans e1) (Or.inl ⟨cn, rfl⟩) (Or.inr ⟨_, rfl⟩) hP hf d hlk
      | retAddr a => obtain ⟨d, cn, e1⟩ := hr; exact W.aret C.1 C.2.1 (C.2.2.2.1.trans e1) (Or.inl ⟨cn, rfl⟩) (Or.inr ⟨_, rfl⟩) hP hf d hlk
  · intro E q ce n' h' H' locs' cells' slots' pc' ls' rest hq
    exact absurd hq (hnx E n' h')
section RULES
variable {X : pX} {M : pM} {pc : Nat} {ls : List (Option Value)} {st : List Value} {S : pS} {Q : pO → Nat → pF → Prop} {mc ms mc1 ms1 mc2 ms2 : Nat}
/-- a call whose exceptions are caught here -/
theorem q_callC {idx : Nat} (M' : pM) (ci : Nat) (as : List Value) {a k : Nat} {Q' : pO → Nat → pF → Prop} {Sk : List Value} (hd : decode M.2.1 pc = .ok (.invokevirtual idx, 3)) (hlk : Cond.methodLink M.1.cls idx M'.1 ∈ gT) (hm : gMth M' k) (hi : Cond.instanceMethod M'.1 ∈ gT ∧ Cond.selects M'.1.cls M'.1 M'.1 ∈ gT)
    (hroom : M'.2.2.2.2.1 + 1 ≤ M.2.2.2.2.1 ∧ 8 + (M'.2.2.1 + 11) + M'.2.2.2.2.2 ≤ M.2.2.2.2.2) (hcl : (vwCl[ci]?).map (fun q => q.1) = some M'.1.cls) (hS0 : Sk = as.reverse ++ .ref a :: st) (hk : as.length = k) (hcat : (st.map fun v => v.category).sum ≤ 8) (hg : ∃ f, a < S.1 ∧ S.2 a = .inr (ci, f)) (hmc : mc1 + mc2 ≤ mc) (hms : ms1 + ms2 ≤ ms)
    (hC : gC X M' (.ref a :: as) S.1 S.2 Q' mc1 ms1) (kk : ∀ (v : Option Value) (n' : Nat) (h' : pF), Q' (.inl v) n' h' → gW X M (pc + 3) ls (v.toList ++ st) n' h' Q mc2 ms2)
    (kc : ∀ (E : String) (n' : Nat) (h' : pF), Q' (.inr E) n' h' → ∃ (hp : Nat) (j : Int32), gCatch M pc E hp ∧ gHand M hp j ∧ Q (.inl (some (.int j))) n' h') : gW X M pc ls Sk S.1 S.2 Q mc ms := by
  intro l p e R s m args below meth c H locs cells slots lsA QQ C hw hS hl h1 h2 kR kX kN
  obtain ⟨f, ha, hc⟩ := hg
  subst hS0
  have hrun := vx_runV (As := as.map (pv X)) (rest := st.map (pv X)) (g := F0 m pc lsA ((as.reverse ++ .ref a :: st).map (pv X))) (b := X.1 + a) (C := M'.1.cls) (H := H) (below := below) (e := e) (locs := locs) (cells := cells) (slots := slots) (meth := meth) (nL := M.2.2.1) ⟨C.1, C.2.1, C.2.2.1, gCx_own C, gCx_ts C⟩ (hC l C.2.2.2.2.2.2.2.2.2.2.1)
    (R := R) (index := idx) (n := k) (bytes := M'.2.1) (maxL := M'.2.2.1) (ret := M'.2.2.2.1) ⟨callB_of k (gCx_ts C) (gws_good hm.1) rfl rfl rfl (gCx_ts C _ hm.2.1) (gCx_ts C _ hlk) hm.2.2 ⟨Nat.le_trans hroom.1 C.2.2.2.2.2.2.2.2.1, Nat.le_trans hroom.2 C.2.2.2.2.2.2.2.2.2.1⟩, gCx_ts C _ hi.1, gCx_ts C _ hi.2⟩
    ⟨gP_blind, pw_recv hw (gCx_k C) ha hc hcl, fun U hU hW => ⟨rfl, by rw [hU]; exact hw, pk_step (gCx_k C) hW hU hS⟩⟩ rfl (by rw [List.length_map]; exact hk) hl.1 (by simp [F0, pv]) (by rw [g_cat]; show 2 * 0 + _ ≤ 8; omega) hd ⟨by omega, by omega⟩
  intro T hT XT
  rcases hrun T hT XT with ⟨v, st₀, t, T', L, h0, X', hL, e1, e2, ⟨v', n', h', hv, hq, hw', hF⟩, stp⟩ | ⟨q, st₀, t, T', L, E, ce, h0, X', hL, e1, e2, ⟨n', h', hq, hw', hF⟩, hce, hcv, hcl', stp⟩
  · obtain ⟨k1, k2, k3⟩ := vx_keep h0 e1 hS (fun _ _ z => z) (fun _ z => z) hL hF
    cases hv
    obtain ⟨t2, a1, b1⟩ := kk v' n' h' hq l p e R s m args below meth c T'.heap (locs ++ L) (cells + mc1) (slots + ms1) lsA QQ C (by rw [e1]; exact hw') k3 hl (by omega) (by omega) kR kX kN T' rfl X'
    refine ⟨t2, stp t2 ?_, b1⟩
    have e9 : (v'.map (pv X)).toList ++ st.map (pv X) = (v'.toList ++ st).map (pv X) := by cases v' <;> simp
    rw [e9]
    exact a1
  · obtain ⟨k1, k2, k3⟩ := vx_keep h0 e1 hS (fun _ _ z => z) (fun _ z => z) hL hF
    obtain ⟨hp, j, ⟨pre, x, suf, g1, g2, g3, g4, g5, g6, g7⟩, ⟨r1, z, pc2, r2, r3, r4, r5⟩, hQ⟩ := kc E n' h' hq
    have hK := gCx_k C
    have hcat9 : vx_W p l e R s m args below meth c T'.heap (locs ++ L) (cells + mc1) (slots + ms1) QQ (F0 m pc lsA (st.map (pv X))) q := by
      refine vx_catch (gCx_own C) pre x suf (C.2.2.2.2.2.2.2.2.2.2.2.2.trans g1) (fun z hz => Or.inr ⟨(g2 z hz).1, ?_⟩) g3 g4 (gCx_ts C _ g5) (va_Nw.use rfl (hK.2.2.2.2.2.2.2.2.2.2.1 _ g6)) (by rw [e1]; exact hce) hcv hcl' ?_
      · obtain ⟨nm, w1, w2⟩ := (g2 z hz).2
        exact ⟨nm, gCx_ts C _ w1, hK.2.2.2.2.2.2.2.2.2.2.2.1 _ w2⟩
      · have hend : ∀ lsB : Array Slot, W p l e R s m args below meth c T'.heap (locs ++ L) (cells + mc1) (slots + ms1) QQ (F0 m pc2 lsB []) := fun lsB =>
          lv_iconst C.1 C.2.1 r3 r2 (kR (some (.int j)) n' h' T'.heap (locs ++ L) (cells + mc1) (slots + ms1) (pc2 + 1) lsB hQ (by rw [e1]; exact hw') k3 (by omega) (by omega) ⟨r4, .int, r1, rfl⟩)
        rw [g7]
        rcases r5 with ⟨i, w1, w2, rfl⟩ | ⟨i, w1, w2, rfl⟩
        · exact lv_astore_n C.1 C.2.1 w1 rfl (gas_has hl) w2 rfl (fun lsB _ => hend lsB)
        · exact lv_astore C.1 C.2.1 w1 (gas_has hl) w2 rfl (fun lsB _ => hend lsB)
    obtain ⟨t2, a1, b1⟩ := hcat9 T' rfl X'
    exact ⟨t2, stp.trans a1, b1⟩
end RULES
