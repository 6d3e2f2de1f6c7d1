/-! what a method of the reference may write: the rows at the offsets L, the fields ks -/
def MR (S S' : pS) (m : Nat) (L ks : List Nat) : Prop := Sh S' m sp10 ∧ S'.1 = S.1 ∧ (∀ q, q < m ∨ m + 41 ≤ q → S'.2 q = S.2 q) ∧ (∀ j, j ∉ L → j ≠ 0 → S'.2 (m + j) = S.2 (m + j)) ∧ ∀ k, k ∉ ks → fI (S'.2 m) k = fI (S.2 m) k
section MRS
variable {S S1 S2 : pS} {m : Nat} {L L' ks ks' : List Nat}
theorem MR_refl (h : Sh S m sp10) (L ks : List Nat) : MR S S m L ks := ⟨h, rfl, fun _ _ => rfl, fun _ _ _ => rfl, fun _ _ => rfl⟩
theorem MR_trans (h : MR S S1 m L ks) (h2 : MR S1 S2 m L ks) : MR S S2 m L ks :=
  ⟨h2.1, h2.2.1.trans h.2.1, fun q hq => (h2.2.2.1 q hq).trans (h.2.2.1 q hq), fun j hj h0 => (h2.2.2.2.1 j hj h0).trans (h.2.2.2.1 j hj h0), fun k hk => (h2.2.2.2.2 k hk).trans (h.2.2.2.2 k hk)⟩
theorem MR_sub (h : MR S S1 m L ks) (h1 : ∀ j, j ∈ L → j ∈ L') (h2 : ∀ k, k ∈ ks → k ∈ ks') : MR S S1 m L' ks' :=
  ⟨h.1, h.2.1, h.2.2.1, fun j hj h0 => h.2.2.2.1 j (fun z => hj (h1 j z)) h0, fun k hk => h.2.2.2.2 k (fun z => hk (h2 k z))⟩
theorem MR_app (h : MR S S1 m L ks) (h2 : MR S1 S2 m L' ks') : MR S S2 m (L ++ L') (ks ++ ks') :=
  MR_trans (MR_sub h (fun _ z => List.mem_append_left _ z) (fun _ z => List.mem_append_left _ z)) (MR_sub h2 (fun _ z => List.mem_append_right _ z) (fun _ z => List.mem_append_right _ z))
theorem MR_I (h : MR S S1 m L ks) {j : Nat} (hj : j ∈ L) (h0 : j ≠ 0) (h4 : j < 41) (i : Nat) (v : Int32) : MR S (wI S1 (m + j) i v) m L ks := by
  obtain ⟨a1, a2, a3, a4, a5⟩ := h
  refine ⟨sh_wI a1 _ _ _, a2, fun q hq => ?_, fun j' hj' h0' => ?_, fun k hk => ?_⟩
  · rw [wI_ne _ _ _ (by omega)]; exact a3 q hq
  · have : j' ≠ j := fun e => hj' (e ▸ hj)
    rw [wI_ne _ _ _ (by omega)]; exact a4 j' hj' h0'
  · rw [wI_ne _ _ _ (by omega)]; exact a5 k hk
theorem MR_J (h : MR S S1 m L ks) {j : Nat} (hj : j ∈ L) (h0 : j ≠ 0) (h4 : j < 41) (i : Nat) (v : Int64) : MR S (wJ S1 (m + j) i v) m L ks := by
  obtain ⟨a1, a2, a3, a4, a5⟩ := h
  refine ⟨sh_wJ a1 _ _ _, a2, fun q hq => ?_, fun j' hj' h0' => ?_, fun k hk => ?_⟩
  · rw [wJ_ne _ _ _ (by omega)]; exact a3 q hq
  · have : j' ≠ j := fun e => hj' (e ▸ hj)
    rw [wJ_ne _ _ _ (by omega)]; exact a4 j' hj' h0'
  · rw [wJ_ne _ _ _ (by omega)]; exact a5 k hk
theorem MR_F (h : MR S S1 m L ks) {k : Nat} (hk : k ∈ ks) {v : Value} (hs : Sh (wF S1 m k v) m sp10) : MR S (wF S1 m k v) m L ks := by
  obtain ⟨a1, a2, a3, a4, a5⟩ := h
  refine ⟨hs, a2, fun q hq => ?_, fun j' hj' h0' => ?_, fun k' hk' => ?_⟩
  · rw [wF_ne _ _ _ (by omega)]; exact a3 q hq
  · rw [wF_ne _ _ _ (by omega)]; exact a4 j' hj' h0'
  · rw [fI_wF_ne _ _ _ (show k' ≠ k from fun e => hk' (by rw [e]; exact hk))]; exact a5 k' hk'
theorem MR_ofMd (hS : Sh S1 m sp10) {j : Nat} (h : Md S S1 [m + j]) (h0 : j ≠ 0) (h4 : j < 41) : MR S S1 m [j] [] := by
  refine ⟨hS, h.1, fun q hq => h.2 q ?_, fun j' hj' h0' => h.2 _ ?_, fun k _ => ?_⟩
  · rw [List.mem_singleton]; omega
  · rw [List.mem_singleton] at hj' ⊢; omega
  · rw [h.2 m (by rw [List.mem_singleton]; omega)]
theorem MR_ofQ (hS : Sh S1 m sp10) {j : Nat} (e : S1.1 = S.1) (h : ∀ q, q ≠ m + j → S1.2 q = S.2 q) (h0 : j ≠ 0) (h4 : j < 41) : MR S S1 m [j] [] :=
  MR_ofMd hS ⟨e, fun q hq => h q (fun z => hq (by rw [z]; simp))⟩ h0 h4
theorem MR_RT (h : MR S S1 m L ks) (hL : 1 ∉ L) {T : Tr} (hT : RT (cI (S.2 (m + 1))) T) : RT (cI (S1.2 (m + 1))) T := by
  rw [h.2.2.2.1 1 hL (by decide)]; exact hT
theorem MR_RR (h : MR S S1 m L ks) (hL : 1 ∉ L) {T : Tr} (hT : RR S m T) : RR S1 m T := ⟨h.1, MR_RT h hL hT.2⟩
end MRS
