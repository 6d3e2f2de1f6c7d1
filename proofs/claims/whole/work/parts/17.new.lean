/-! making cells, throwing, arrays of references, copies, constants -/
theorem va_S_push {X : pX} {H0 H H1 : Heap} {locs : List Loc} (hS : va_S (pA X) H0 H locs) (z : H1.size = H.size + 1) (o1 : ∀ q : Nat, q < H.size → H1[q]? = H[q]?) : va_S (pA X) H0 H1 locs :=
  ⟨Nat.le_trans hS.1 (by omega), fun x h1 h2 => (o1 x (Nat.lt_of_lt_of_le h1 hS.1)).trans (hS.2.1 x h1 h2), hS.2.2⟩
section RULES
variable {X : pX} {M : pM} {pc : Nat} {ls : List (Option Value)} {st : List Value} {n : Nat} {h : pF} {Q : pO → Nat → pF → Prop} {mc ms : Nat}
theorem r_new {idx : Nat} (ci : Nat) {cn : String} {T0 : u_T} {N0 : Nat} (ty0 : Nat → FieldType) (hd : decode M.2.1 pc = .ok (.new idx, 3)) (g1 : vwCl[ci]? = some (cn, T0, N0)) (g3 : ∀ w ∈ u_ws cn T0 N0, w ∈ gT) (g4 : ∀ k, k < N0 → parseFieldDescriptor (T0 k).2.2.1 = some (ty0 k))
    (hlk : Cond.classLink M.1.cls idx cn ∈ gT) (hin : Cond.instantiable cn N0 ∈ gT) (hini : Cond.initialized cn ∈ gT) {mc2 ms2 : Nat} (hmc : 1 + mc2 ≤ mc) (hms : N0 + ms2 ≤ ms) {f : Nat → Value} (hf : ∀ X' : pX, ∀ j, j < N0 → defaultValue (ty0 j) = pv X' (f j))
    (kk : gW X M (pc + 3) ls (.ref n :: st) (n + 1) (pu h n (.inr (ci, f))) Q mc2 ms2) : gW X M pc ls st n h Q mc ms := by
  intro l p e R s m args below meth c H locs cells slots lsA QQ C hw hS hl h1 h2 kR kX kN
  have hKn := (gCx_k C).1.1 ci _ g1
  refine W.newcK C.1 C.2.1 (gCx_own C) (gCx_ts C _ hlk) (gCx_ts C _ hin) (gCx_ts C _ hini) rfl hd (by omega) (by omega) hKn.2.1 rfl fun H1 kC hkC e1 z1 o1 => ?_
  have hw1 : pw X (n + 1) (pu h n (.inr (ci, f))) H1 := by
    refine pw_push hw z1 ?_ o1
    intro r hr
    cases g1.symm.trans hr
    rw [← hw.1]
    exact (u_born ty0 (gCx_ts C) g3 hKn hkC e1 g4).to (fun j hj => hf X j hj)
  have := kk l p e R s m args below meth c H1 locs (cells + 1) (slots + N0) lsA QQ C hw1 (va_S_push hS z1 o1) hl (by omega) (by omega) kR kX kN
  rw [hw.1]
  exact this
theorem gCx_dA {l : Launch} {p : Program} {R : Room} {s : State} {m : MethodId} {args : Array Value} {meth : Method} {c : Code} (C : gCx X M l p R s m args meth c) {ty : FieldType} (ht : ty ∈ pTys) {cA : ClassId} (h : s.vm.findClass ("[" ++ ty.toString) = some cA) : cA = X.2.2.2.1 ty := by
  have hr := ((gCx_k C).2.1 ty ht).2
  have : s.vm.findClass ("[" ++ ty.toString) = some (X.2.2.2.1 ty) := by
    cases ty with
    | object C0 => obtain ⟨kA, comp, -, -, -, h4⟩ := hr; exact h4
    | _ => exact hr
  exact Option.some.inj (h.symm.trans this)
theorem r_newa (at0 : ArrayType) (ty : FieldType) (a0 : vp_A) {z : Int32} {N : Nat} (hd : decode M.2.1 pc = .ok (.newarray at0, 2)) (hty : newarray.typeOf at0 = ty) (ht : ty ∈ pTys) (hw0 : Cond.arrayClass ty ∈ gT) (ha : ∀ cA : ClassId, vp_cell cA a0 = arrV cA N (fun _ => defaultValue ty)) (hpa : ∀ X' : pX, pa X' a0 = a0) (hn : ¬ z < 0) (hN : z.toNatClampNeg = N) (hb : N * componentBytes ty ≤ 536870912) {mc2 ms2 : Nat} (hmc : 1 + mc2 ≤ mc) (hms : N + ms2 ≤ ms)
    (kk : gW X M (pc + 2) ls (.ref n :: st) (n + 1) (pu h n (.inl (ty, a0))) Q mc2 ms2) : gW X M pc ls (.int z :: st) n h Q mc ms := by
  intro l p e R s m args below meth c H locs cells slots lsA QQ C hw hS hl h1 h2 kR kX kN
  subst hty
  refine va_newaK C.1 C.2.1 (gCx_ts C _ hw0) rfl hd rfl hn hN hb (by omega) (by omega) rfl fun H1 cA e1 z1 o1 hAr hNm => ?_
  have ec := gCx_dA C ht hNm
  subst ec
  have hw1 : pw X (n + 1) (pu h n (.inl (newarray.typeOf at0, a0))) H1 := by
    refine pw_push hw z1 ?_ o1
    show H1[X.1 + n]? = some (vp_cell _ (pa X a0))
    rw [hpa, ha, ← hw.1]
    exact e1
  have := kk l p e R s m args below meth c H1 locs (cells + 1) (slots + N) lsA QQ C hw1 (va_S_push hS z1 o1) hl (by omega) (by omega) kR kX kN
  rw [hw.1]
  exact this
theorem r_anewa {idx : Nat} (cn : String) {z : Int32} {N : Nat} (hd : decode M.2.1 pc = .ok (.anewarray idx, 3)) (ht : (.object cn : FieldType) ∈ pTys) (hcn : cn = "CloneOutliner$Tree") (hlk : Cond.classLink M.1.cls idx cn ∈ gT) (hn : ¬ z < 0) (hN : z.toNatClampNeg = N) (hb : N * 4 ≤ 536870912) {mc2 ms2 : Nat} (hmc : 1 + mc2 ≤ mc) (hms : N + ms2 ≤ ms)
    (kk : gW X M (pc + 3) ls (.ref n :: st) (n + 1) (pu h n (.inl (.object cn, N, .inr (.inr (.inr (.inr (fun _ => none))))))) Q mc2 ms2) : gW X M pc ls (.int z :: st) n h Q mc ms := by
  intro l p e R s m args below meth c H locs cells slots lsA QQ C hw hS hl h1 h2 kR kX kN
  subst hN
  refine W.anew C.1 C.2.1 (gCx_own C) (gCx_ts C _ hlk) (by rw [hcn]; exact va_AO.use (gCx_k C).2.2.2.2.2.2.2.2.2.2.2.2.1) rfl hd rfl hn hb (by omega) (by omega) fun cA kA comp f1 f2 f3 f4 => ?_
  generalize hH1 : H.push ({ cls := cA, slots := Array.replicate z.toNatClampNeg .null, vm := .none } : Cell) = H1
  have z1 : H1.size = H.size + 1 := by rw [← hH1, Array.size_push]
  have e1 : H1[H.size]? = some (arrV cA z.toNatClampNeg (fun _ => .null)) := by rw [← hH1, Array.getElem?_push_size, ← arrV_new]
  have o1 : ∀ q : Nat, q < H.size → H1[q]? = H[q]? := fun q hq => by rw [← hH1, Array.getElem?_push, if_neg (Nat.ne_of_lt hq)]
  have ec := gCx_dA C ht f1
  subst ec
  have hw1 : pw X (n + 1) (pu h n (.inl (.object cn, z.toNatClampNeg, .inr (.inr (.inr (.inr (fun _ => none))))))) H1 := by
    refine pw_push hw z1 ?_ o1
    show H1[X.1 + n]? = some (vp_cell _ _)
    rw [← hw.1, e1]
    rfl
  have := kk l p e R s m args below meth c H1 locs (cells + 1) (slots + z.toNatClampNeg) lsA QQ C hw1 (va_S_push hS z1 o1) hl (by omega) (by omega) kR kX kN
  rw [hw.1]
  exact this
theorem pv_rf (X : pX) (r : Option Nat) : pv X (va_rf r) = va_rf (r.map (fun q => X.1 + q)) := by cases r <;> rfl
theorem r_aald (cn : String) {a N : Nat} {f : Nat → Option Nat} {i : Int32} (hd : decode M.2.1 pc = .ok (.aaload, 1)) (ht : (.object cn : FieldType) ∈ pTys) (ha : a < n) (hc : h a = .inl (.object cn, N, .inr (.inr (.inr (.inr f))))) (hin : vp_in i N) (k : gW X M (pc + 1) ls (va_rf (f i.toNatClampNeg) :: st) n h Q mc ms) : gW X M pc ls (.int i :: .ref a :: st) n h Q mc ms := by
  intro l p e R s m args below meth c H locs cells slots lsA QQ C hw hS hl h1 h2 kR kX kN
  have hp := hw.2 a ha
  rw [hc] at hp
  have hP : va_P X.2.2.1 vwCl [(X.1 + a, .inl (X.2.2.2.1 (.object cn), N, .inr (.inr (.inr (.inr (fun j => (f j).map (fun q => X.1 + q)))))))] H := by
    intro i q hq
    cases i with
    | zero => simp at hq; subst hq; exact hp
    | succ i => simp at hq
  refine va_aldq (ws := [(X.1 + a, .inl (X.2.2.2.1 (.object cn), N, .inr (.inr (.inr (.inr (fun j => (f j).map (fun q => X.1 + q)))))))]) C.1 C.2.1 (gCx_K C ht) hP 0 0 rfl rfl hin hd ?_
  have := k l p e R s m args below meth c H locs cells slots lsA QQ C hw hS hl h1 h2 kR kX kN
  rw [List.map_cons, pv_rf] at this
  exact this
theorem r_aast (ci : Nat) {r : vw_C} {a N v : Nat} {f : Nat → Option Nat} {fv : Nat → Value} {i : Int32} (hd : decode M.2.1 pc = .ok (.aastore, 1)) (ht : (.object r.1 : FieldType) ∈ pTys) (hr : vwCl[ci]? = some r) (ha : a < n) (hc : h a = .inl (.object r.1, N, .inr (.inr (.inr (.inr f))))) (hv : v < n) (hcv : h v = .inr (ci, fv)) (hin : vp_in i N)
    (k : gW X M (pc + 1) ls st n (pu h a (.inl (.object r.1, N, .inr (.inr (.inr (.inr (pu f i.toNatClampNeg (some v)))))))) Q mc ms) : gW X M pc ls (.ref v :: .int i :: .ref a :: st) n h Q mc ms := by
  intro l p e R s m args below meth c H locs cells slots lsA QQ C hw hS hl h1 h2 kR kX kN
  have hp := hw.2 a ha
  rw [hc] at hp
  have hpv := hw.2 v hv
  rw [hcv] at hpv
  obtain ⟨cellV, g1, g2, g3, -⟩ := hpv r hr
  have hlt : i.toNatClampNeg < N := Nat.not_le.mp fun q => hin (Or.inr q)
  have h0 : ¬ i < 0 := fun q => hin (Or.inl q)
  have hK := gCx_K C ht
  have hcls := (hK.1 ci r hr).2
  obtain ⟨kA, comp, k1, k2, k3, -⟩ := (hK.2 0 _ rfl).2
  have hcomp : comp = X.2.2.1.1 ci := Option.some.inj (k3.symm.trans hcls.1)
  subst hcomp
  obtain ⟨kC, hkC, -⟩ := hcls.2
  refine W.aast C.1 C.2.1 hp (fun q h => by cases h) (fun h => by cases h) k1 k2 rfl hkC ⟨h0, by show _ < (arrV _ _ _).slots.size; rw [arrV_size]; exact hlt⟩ g1 (fun q h => by rw [g3] at h; cases h) (by rw [g2]; exact hkC) (by rw [g2]; exact va_assign hcls) rfl rfl hd fun H1 e1 z oq => ?_
  refine k l p e R s m args below meth c H1 _ cells slots lsA QQ C (pw_set hw z ?_ oq) (hS.put z oq (Nat.le_add_right _ _)) hl h1 h2 kR kX kN
  show H1[X.1 + a]? = some (vp_cell _ _)
  rw [e1]
  simp only [pa]
  rw [vp_cell_q, vp_cell_q, arrV_store]
  congr 2
  funext q
  by_cases hq : q = i.toNatClampNeg
  · subst hq
    simp [updV, pu, va_rf]
  · simp [updV, pu, hq]
theorem r_ldcS {idx : Nat} (i : Nat) {tx : String} (hd : decode M.2.1 pc = .ok (.ldc idx, 2)) (hs : pStr[i]? = some (M.1.cls, idx, tx)) (k : gW X M (pc + 2) ls (.retAddr (i + 1) :: st) n h Q mc ms) : gW X M pc ls st n h Q mc ms :=
  fun l p e R s m args below meth c H locs cells slots lsA QQ C hw hS hl h1 h2 kR kX kN => va_ldcS C.1 C.2.1 (gCx_own C) ((gCx_k C).2.2.2.2.1 i _ hs) hd (k l p e R s m args below meth c H locs cells slots lsA QQ C hw hS hl h1 h2 kR kX kN)
theorem r_sld {i : Int32} (hd : decode M.2.1 pc = .ok (.iaload, 1)) (hin : vp_in i X.2.2.2.2.1) (k : gW X M (pc + 1) ls (.int (X.2.2.2.2.2 i.toNatClampNeg) :: st) n h Q mc ms) : gW X M pc ls (.int i :: .retAddr 0 :: st) n h Q mc ms :=
  fun l p e R s m args below meth c H locs cells slots lsA QQ C hw hS hl h1 h2 kR kX kN => va_sld C.1 C.2.1 (gCx_k C).2.2.2.2.2.2.1 (Nat.lt_of_lt_of_le (gCx_k C).2.2.2.2.2.2.2.1 (gCx_k C).2.2.2.2.2.2.2.2.1) (Nat.not_le.mpr (gCx_k C).2.2.2.2.2.2.2.1) hS hin hd (k l p e R s m args below meth c H locs cells slots lsA QQ C hw hS hl h1 h2 kR kX kN)
theorem r_slen (hd : decode M.2.1 pc = .ok (.arraylength, 1)) (k : gW X M (pc + 1) ls (.int (Int32.ofNat X.2.2.2.2.1) :: st) n h Q mc ms) : gW X M pc ls (.retAddr 0 :: st) n h Q mc ms :=
  fun l p e R s m args below meth c H locs cells slots lsA QQ C hw hS hl h1 h2 kR kX kN => va_slen C.1 C.2.1 (gCx_k C).2.2.2.2.2.2.1 (Nat.lt_of_lt_of_le (gCx_k C).2.2.2.2.2.2.2.1 (gCx_k C).2.2.2.2.2.2.2.2.1) (Nat.not_le.mpr (gCx_k C).2.2.2.2.2.2.2.1) hS hd (k l p e R s m args below meth c H locs cells slots lsA QQ C hw hS hl h1 h2 kR kX kN)
theorem r_copyi {idx a a0 n0 n1 : Nat} (ty : FieldType) {f g : Nat → Int32} {sp dp z : Int32} (hd : decode M.2.1 pc = .ok (.invokestatic idx, 3)) (ht : ty ∈ pTys) (hprim : refKind ty = false) (hlk : Cond.methodLink M.1.cls idx arraycopyName ∈ gT) (hnat : Cond.native arraycopyName ∈ gT) (hstat : Cond.static arraycopyName ∈ gT) (hini : Cond.initialized "java/lang/System" ∈ gT)
    (ha0 : a0 < n) (hc0 : h a0 = .inl (ty, n0, .inl f)) (ha1 : a < n) (hc1 : h a = .inl (ty, n1, .inl g)) (p1 : ¬ sp < 0) (p2 : ¬ dp < 0) (p3 : ¬ z < 0) (p4 : sp.toNatClampNeg + z.toNatClampNeg ≤ n0) (p5 : dp.toNatClampNeg + z.toNatClampNeg ≤ n1) (hfit : ∀ i, i < z.toNatClampNeg → fits ty (.int (f (sp.toNatClampNeg + i))) = true)
    (hroom : 1 ≤ M.2.2.2.2.1 ∧ (st.map fun v => v.category).sum + (nativeFrameWords "java/lang/System" "arraycopy" 5 + 11) ≤ M.2.2.2.2.2)
    (k : gW X M (pc + 3) ls st n (pu h a (.inl (ty, n1, .inl (va_cpy f g sp.toNatClampNeg dp.toNatClampNeg z.toNatClampNeg)))) Q mc ms) : gW X M pc ls (.int z :: .int dp :: .ref a :: .int sp :: .ref a0 :: st) n h Q mc ms := by
  intro l p e R s m args below meth c H locs cells slots lsA QQ C hw hS hl h1 h2 kR kX kN
  have nn : ∀ z : Int32, ¬ z < 0 → z.toInt = (z.toNatClampNeg : Int) := by
    intro z hz
    have hz0 : (0 : Int) ≤ z.toInt := by
      have := Int32.not_lt.mp hz
      simpa using Int32.le_iff_toInt_le.mp this
    show z.toInt = ((z.toInt.toNat : Nat) : Int)
    omega
  have hp0 := hw.2 a0 ha0
  rw [hc0] at hp0
  have hp1 := hw.2 a ha1
  rw [hc1] at hp1
  have hK := gCx_K C ht
  have hcc : ∀ F : Nat → Int32, ∀ N, vp_cell (X.2.2.2.1 ty) (N, .inl F) = arrV (X.2.2.2.1 ty) N (fun j => .int (F j)) := fun _ _ => rfl
  have hq0 : H[X.1 + a0]? = some (vp_cell (X.2.2.2.1 ty) (n0, .inl f)) := hp0
  have hq1 : H[X.1 + a]? = some (vp_cell (X.2.2.2.1 ty) (n1, .inl g)) := hp1
  intro T hT XT
  obtain ⟨-, k0, hk0, cm0, hkk0⟩ := (hK.2 0 _ rfl).1 n0 (fun j => .int (f j))
  obtain ⟨-, k1, hk1, cm1, hkk1⟩ := (hK.2 0 _ rfl).1 n1 (fun j => .int (g j))
  obtain ⟨vm', X', step⟩ := XT.arraycopy C.1 (gCx_own C) (gCx_ts C _ hlk) (gCx_ts C _ hnat) (gCx_ts C _ hstat) (gCx_ts C _ hini) (src := X.1 + a0) (dst := X.1 + a) (cs := vp_cell (X.2.2.2.1 ty) (n0, .inl f)) (cd := vp_cell (X.2.2.2.1 ty) (n1, .inl g)) (srcPos := sp) (destPos := dp) (n := z) (by rw [hT]; exact hq0) (by rw [hT]; exact hq1)
    (fun _ h => by cases h) (fun _ h => by cases h) (fun h => by cases h) (fun h => by cases h) hk0 hk1 hkk0 hkk1 (by simp [hprim]) p1 p2 p3
    (by rw [nn sp p1, nn z p3]; show ¬ _ > ((arrV _ n0 (fun j => .int (f j))).slots.size : Int); rw [arrV_size]; omega)
    (by rw [nn dp p2, nn z p3]; show ¬ _ > ((arrV _ n1 (fun j => .int (g j))).slots.size : Int); rw [arrV_size]; omega)
    (fun vm₁ _ i hi => by
      have e : (vp_cell (X.2.2.2.1 ty) (n0, .inl f)).slots.getD (sp.toNatClampNeg + i) .null = .int (f (sp.toNatClampNeg + i)) := by
        show (arrV _ n0 (fun j => .int (f j))).slots.getD _ _ = _
        rw [Array.getD_eq_getD_getElem?, arrV_read _ _ (by omega)]
        rfl
      refine ⟨?_, ?_⟩
      · rw [e]
        exact hfit i hi
      · rw [e]
        exact trivial)
    (g := F0 m pc lsA (.int z :: .int dp :: .ref (X.1 + a) :: .int sp :: .ref (X.1 + a0) :: st.map (pv X))) rfl (by rw [C.2.2.1]; exact hl.1) (rest := st.map (pv X)) rfl (by rw [C.2.1]; exact hd) (Nat.le_trans hroom.1 C.2.2.2.2.2.2.2.2.1) (by rw [g_cat]; have := C.2.2.2.2.2.2.2.2.2.1; show 2 * 0 + _ + _ ≤ _; omega)
  have e1 : copied (vp_cell (X.2.2.2.1 ty) (n0, .inl f)) (vp_cell (X.2.2.2.1 ty) (n1, .inl g)) sp dp z = vp_cell (X.2.2.2.1 ty) (n1, .inl (va_cpy f g sp.toNatClampNeg dp.toNatClampNeg z.toNatClampNeg)) := va_copied (fun z => .int z) _ _ f g p4
  rw [e1] at X' step
  have hlt : X.1 + a < H.size := (Array.getElem?_eq_some_iff.mp hq1).1
  have hheap : ((T.setVm vm').setCell (X.1 + a) (vp_cell (X.2.2.2.1 ty) (n1, .inl (va_cpy f g sp.toNatClampNeg dp.toNatClampNeg z.toNatClampNeg)))).heap = H.setIfInBounds (X.1 + a) (vp_cell (X.2.2.2.1 ty) (n1, .inl (va_cpy f g sp.toNatClampNeg dp.toNatClampNeg z.toNatClampNeg))) := by rw [← hT]; rfl
  have oq : ∀ q : Nat, q ≠ X.1 + a → (H.setIfInBounds (X.1 + a) (vp_cell (X.2.2.2.1 ty) (n1, .inl (va_cpy f g sp.toNatClampNeg dp.toNatClampNeg z.toNatClampNeg))))[q]? = H[q]? := fun q hq => by simp [Array.getElem?_setIfInBounds, Ne.symm hq]
  obtain ⟨t, a1, b1⟩ := k l p e R s m args below meth c _ _ cells slots lsA QQ C (pw_set hw (by simp) (show (H.setIfInBounds (X.1 + a) _)[X.1 + a]? = some _ by simp [Array.getElem?_setIfInBounds, hlt]; rfl) oq) ⟨by simp; exact hS.1, fun q g1 g2 => by
      rw [oq q (fun e => g2 (by rw [e]; exact Nat.le_add_right _ _))]
      exact hS.2.1 q g1 g2, fun q hq => by
      rcases List.mem_append.mp hq with h | h
      · exact hS.2.2 q h
      · obtain ⟨z, -, hz⟩ := List.mem_map.mp h
        rw [← hz]
        exact Nat.le_add_right _ _⟩ hl h1 h2 kR kX kN _ hheap X'
  exact ⟨t, step t a1, b1⟩
end RULES
