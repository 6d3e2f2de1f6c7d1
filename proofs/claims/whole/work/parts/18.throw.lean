/-! throwing -/
def gjunk (h : pF) (n : Nat) : pF := fun i => if i < n then h i else .inr (99, fun _ => .null)
def gxb (cls : String) : List Cond := [Cond.castable cls cls, .declares (Bundle.initS "java/lang/RuntimeException"), .declares (Bundle.initS "java/lang/Exception"), .declares (Bundle.initS "java/lang/Throwable")]
def gxn : List String := ["java/lang/RuntimeException", "java/lang/Exception"]
theorem pw_junk {X : pX} {n : Nat} {h : pF} {H H1 : Heap} (hw : pw X n h H) (hz : H.size ≤ H1.size) (ho : ∀ q : Nat, q < H.size → H1[q]? = H[q]?) : pw X (H1.size - X.1) (gjunk h n) H1 := by
  have e := hw.1
  refine ⟨by omega, fun i hi => ?_⟩
  by_cases c : i < n
  · have : gjunk h n i = h i := by simp [gjunk, c]
    rw [this]
    exact pat_kept (hw.2 i c) (ho _ (by omega))
  · have : gjunk h n i = .inr (99, fun _ => .null) := by simp [gjunk, c]
    rw [this]
    intro r hr
    exact absurd hr (by simp [vwCl])
/-- what is known of an exception of the class's own throws -/
def gEx (own : String) (ik ic : Nat) (cls : String) : Prop := Bundle.fit cls = true ∧ Cond.classLink own ik cls ∈ gT ∧ Cond.initialized cls ∈ gT ∧ (cls, cls) ∈ pCast ∧ (∀ w ∈ (vx_atS own ic cls gxn).filter goodWord, w ∈ gT) ∧ (∀ w ∈ (vx_atS own ic cls gxn).filter (fun w => !goodWord w), w ∈ gxb cls) ∧ ∀ w ∈ Cond.classLink own ik cls :: Cond.initialized cls :: vx_atS own ic cls gxn, vx_ot w = true
theorem gxn_fit : ∀ n ∈ gxn, Bundle.fit n = true := by decide +kernel
section RULES
variable {X : pX} {M : pM} {pc : Nat} {ls : List (Option Value)} {st : List Value} {n : Nat} {h : pF} {Q : pO → Nat → pF → Prop} {mc ms : Nat}
theorem r_throw {ik is ic : Nat} (cls : String) {text : String} (i : Nat) (hd0 : decode M.2.1 pc = .ok (.new ik, 3)) (hd3 : decode M.2.1 (pc + 3) = .ok (.dup, 1)) (hd4 : decode M.2.1 (pc + 4) = .ok (.ldc is, 2)) (hd6 : decode M.2.1 (pc + 6) = .ok (.invokespecial ic, 3)) (hd9 : decode M.2.1 (pc + 9) = .ok (.athrow, 1)) (hx : gEx M.1.cls ik ic cls) (hstr : pStr[i]? = some (M.1.cls, is, text))
    (hroom : 6 ≤ M.2.2.2.2.1 ∧ (st.map fun v => v.category).sum + 82 ≤ M.2.2.2.2.2) (hmc : 1 ≤ mc) (hms : 6 ≤ ms) (hq : ∀ n', n ≤ n' → Q (.inr cls) n' (gjunk h n)) : gW X M pc ls st n h Q mc ms := by
  intro l p e R s m args below meth c H locs cells slots lsA QQ C hw hS hl h1 h2 kR kX kN
  rcases kN with kN | ⟨hout, Qc, XC, rfl, hXC⟩
  · exact absurd (hq n (Nat.le_refl n)) (kN _ _ _)
  · obtain ⟨x1, x2, x3, x4, x5, x6, x7⟩ := hx
    have hK := gCx_k C
    have e9 := C.2.2.2.2.2.2.2.2.1
    have e10 := C.2.2.2.2.2.2.2.2.2.1
    refine vx_throwS C.1 C.2.1 C.2.2.2.2.2.2.2.2.2.2.1 (names := gxn) (A := pA X) (gCx_own C) x1 gxn_fit (gCx_ts C _ x2) (gCx_ts C _ x3) (hK.2.2.2.2.1 i _ hstr)
      (vx_hat (B := gxb cls) (fun w hw => gCx_ts C _ (x5 w hw)) x6 (fun w hw => ?_)) x7 hK.2.2.1 hK.2.2.2.1 hS (by rw [C.2.2.1]; exact hl.1) hd0 hd3 hd4 hd6 hd9 (fun x hx => (hout x hx).elim)
      (by show 2 + 3 < _; omega) (by rw [g_cat]; show _ + (13 * (2 + 1) + 43) ≤ _; omega) (by omega) (by omega) C.2.2.2.2.1 (fun t ht hz ho => ?_) hS.2.2 (by omega) (by omega)
    · have hdc := hK.2.2.2.2.2.2.2.2.2.2.2.2.2.1
      rcases List.mem_cons.mp hw with rfl | hw
      · exact va_Nw.use rfl (hK.2.2.2.2.2.2.2.2.2.2.1 _ x4)
      · rcases List.mem_cons.mp hw with rfl | hw
        · exact va_Nw.use rfl (hdc _ (by decide))
        · rcases List.mem_cons.mp hw with rfl | hw
          · exact va_Nw.use rfl (hdc _ (by decide))
          · rw [List.mem_singleton.mp hw]
            exact va_Nw.use rfl (hdc _ (by decide))
    · have hwt := pw_junk hw hz ho
      refine hXC cls _ _ t (hq _ ?_) hwt ⟨Nat.le_trans hS.1 hz, fun q q1 q2 => (ho q (Nat.lt_of_lt_of_le q1 hS.1)).trans (hS.2.1 q q1 q2)⟩
      have := hw.1
      omega
theorem r_throwW {ik is ic : Nat} (cls : String) {text : String} (i : Nat) (hd0 : decode M.2.1 pc = .ok (.new ik, 3)) (hd3 : decode M.2.1 (pc + 3) = .ok (.dup, 1)) (hd4 : decode M.2.1 (pc + 4) = .ok (.ldc_w is, 3)) (hd6 : decode M.2.1 (pc + 7) = .ok (.invokespecial ic, 3)) (hd9 : decode M.2.1 (pc + 10) = .ok (.athrow, 1)) (hx : gEx M.1.cls ik ic cls) (hstr : pStr[i]? = some (M.1.cls, is, text))
    (hroom : 6 ≤ M.2.2.2.2.1 ∧ (st.map fun v => v.category).sum + 82 ≤ M.2.2.2.2.2) (hmc : 1 ≤ mc) (hms : 6 ≤ ms) (hq : ∀ n', n ≤ n' → Q (.inr cls) n' (gjunk h n)) : gW X M pc ls st n h Q mc ms := by
  intro l p e R s m args below meth c H locs cells slots lsA QQ C hw hS hl h1 h2 kR kX kN
  rcases kN with kN | ⟨hout, Qc, XC, rfl, hXC⟩
  · exact absurd (hq n (Nat.le_refl n)) (kN _ _ _)
  · obtain ⟨x1, x2, x3, x4, x5, x6, x7⟩ := hx
    have hK := gCx_k C
    have e9 := C.2.2.2.2.2.2.2.2.1
    have e10 := C.2.2.2.2.2.2.2.2.2.1
    refine vx_throwSW C.1 C.2.1 C.2.2.2.2.2.2.2.2.2.2.1 (names := gxn) (A := pA X) (gCx_own C) x1 gxn_fit (gCx_ts C _ x2) (gCx_ts C _ x3) (hK.2.2.2.2.1 i _ hstr)
      (vx_hat (B := gxb cls) (fun w hw => gCx_ts C _ (x5 w hw)) x6 (fun w hw => ?_)) x7 hK.2.2.1 hK.2.2.2.1 hS (by rw [C.2.2.1]; exact hl.1) hd0 hd3 hd4 hd6 hd9 (fun x hx => (hout x hx).elim)
      (by show 2 + 3 < _; omega) (by rw [g_cat]; show _ + (13 * (2 + 1) + 43) ≤ _; omega) (by omega) (by omega) C.2.2.2.2.1 (fun t ht hz ho => ?_) hS.2.2 (by omega) (by omega)
    · have hdc := hK.2.2.2.2.2.2.2.2.2.2.2.2.2.1
      rcases List.mem_cons.mp hw with rfl | hw
      · exact va_Nw.use rfl (hK.2.2.2.2.2.2.2.2.2.2.1 _ x4)
      · rcases List.mem_cons.mp hw with rfl | hw
        · exact va_Nw.use rfl (hdc _ (by decide))
        · rcases List.mem_cons.mp hw with rfl | hw
          · exact va_Nw.use rfl (hdc _ (by decide))
          · rw [List.mem_singleton.mp hw]
            exact va_Nw.use rfl (hdc _ (by decide))
    · have hwt := pw_junk hw hz ho
      refine hXC cls _ _ t (hq _ ?_) hwt ⟨Nat.le_trans hS.1 hz, fun q q1 q2 => (ho q (Nat.lt_of_lt_of_le q1 hS.1)).trans (hS.2.1 q q1 q2)⟩
      have := hw.1
      omega
end RULES
