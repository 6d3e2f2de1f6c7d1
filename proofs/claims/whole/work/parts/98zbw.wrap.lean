/-! the law's own callers: what is thrown is caught and answered by a number; j: by how many cells the heap has grown behind a throw -/
def oF2d (x : UInt32) : Option UInt64 := if FP.f2d x &&& 0x7fffffffffffffff ≤ 0x7ff0000000000000 then some (FP.f2d x) else none
theorem q_f2d {X : pX} {M : pM} {pc : Nat} {ls : List (Option Value)} {st : List Value} {S : pS} {Q : pO → Nat → pF → Prop} {mc ms : Nat} {x : UInt32} {r : UInt64} (hd : decode M.2.1 pc = .ok (.f2d, 1)) (e : oF2d x = some r) (kk : gW X M (pc + 1) ls (.double r :: st) S.1 S.2 Q mc ms) : gW X M pc ls (.float x :: st) S.1 S.2 Q mc ms := by
  unfold oF2d at e
  by_cases c : FP.f2d x &&& 0x7fffffffffffffff ≤ 0x7ff0000000000000
  · rw [if_pos c] at e; cases e; exact r_f2d hd c kk
  · rw [if_neg c] at e; cases e
def F_L_append (j : Nat) (S : pS) (a0 : Nat) (a1 : Int32) (a2 : Nat) : Option (Int32 × pS) := (F_X9_append S a0 a1).bind fun q => Sum.elim (fun q => (oSJ q.2 a2 .long (0 : Int32) q.1.toInt64).bind fun S1 => some ((0 : Int32), S1)) (fun q => if q.1 = "java/lang/IllegalArgumentException" then some ((1 : Int32), (q.2.1 + j, gjunk q.2.2 q.2.1)) else if q.1 = "java/lang/IllegalStateException" then some ((2 : Int32), (q.2.1 + j, gjunk q.2.2 q.2.1)) else none) q
theorem t_L_append_0 : gCatch mL_append 4 "java/lang/IllegalArgumentException" 12 := by
  refine ⟨[], ⟨0, 9, 12, 13⟩, [⟨0, 9, 15, 15⟩], rfl, ?_, by decide +kernel, by decide, nL_13.1, by decide, rfl⟩
  exact fun z hz => absurd hz List.not_mem_nil
theorem h_L_append_0 : gHand mL_append 12 1 := ⟨rfl, _, 13, by decide, dL_append_13, dL_append_14, Or.inl ⟨_, dL_append_12, by decide, rfl⟩⟩
theorem t_L_append_1 : gCatch mL_append 4 "java/lang/IllegalStateException" 15 := by
  refine ⟨[⟨0, 9, 12, 13⟩], ⟨0, 9, 15, 15⟩, [], rfl, ?_, by decide +kernel, by decide, nL_15.1, by decide, rfl⟩
  intro z hz
  cases List.mem_singleton.mp hz
  exact ⟨by decide, "java/lang/IllegalArgumentException", nL_13.1, by decide⟩
theorem h_L_append_1 : gHand mL_append 15 2 := ⟨rfl, _, 16, by decide, dL_append_16, dL_append_17, Or.inl ⟨_, dL_append_15, by decide, rfl⟩⟩
set_option maxRecDepth 100000 in
set_option maxHeartbeats 4000000 in
theorem C_L_append {X : pX} {Q : pO → Nat → pF → Prop} (S : pS) (a0 : Nat) (a1 : Int32) (a2 : Nat) (H : ∀ j, ∃ r, F_L_append j S a0 a1 a2 = some r ∧ Q (.inl (some (.int r.1))) r.2.1 r.2.2) (hnx : ∀ (E : String) (n' : Nat) (h' : pF), ¬ Q (.inr E) n' h') : gCW X mL_append [.ref a0, .int a1, .ref a2] S.1 S.2 Q 1 6 := by
  refine gCW_of (by decide) (Nat.le_of_ble_eq_true rfl) hnx ?_
  change gW _ _ _ [some (.ref a0), some (.int a1), some (.ref a2), none] _ _ _ _ _ _
  obtain ⟨r, hr, hk⟩ := H 0
  unfold F_L_append at hr
  replace hr := obind hr
  obtain ⟨q, e, hr⟩ := hr
  refine r_aload_n (pc := 0) dL_append_0 rfl ?_
  refine r_iconst (pc := 1) (0 : Int32) dL_append_1 (by decide) ?_
  refine r_aload_n (pc := 2) dL_append_2 rfl ?_
  refine r_iload_n (pc := 3) dL_append_3 rfl ?_
  rcases q with q | q
  · simp only [Sum.elim_inl] at hr
    refine q_callC (Q' := qR (some (.int q.1)) q.2) (pc := 4) mX9_append 9 [.int a1] dL_append_4 kL_7 fX9_append iX9_append ⟨by decide, by decide⟩ rfl rfl rfl (Nat.le_of_ble_eq_true rfl) (og e) (mc1 := 1) (ms1 := 6) (mc2 := 0) (ms2 := 0) (by decide) (by decide) (C_X9_append S a0 a1 (.inl q) e (qR_mk (some (.int q.1)) q.2)) (fun v n' h' hq => ?_) (fun E n' h' hq => by cases hq.1)
    obtain ⟨w1, w2, w3⟩ := hq
    cases w1; subst w2; subst w3
    refine r_i2l (pc := 7) dL_append_7 ?_
    replace hr := obind hr
    obtain ⟨S1, es, hr⟩ := hr
    cases hr
    refine q_last (S := q.2) (pc := 8) dL_append_8 es ?_
    refine r_goto (pc := 9) 18 dL_append_9 (by decide) ?_
    refine r_iconst (pc := 18) (0 : Int32) dL_append_18 (by decide) ?_
    exact r_ireturn (pc := 19) .int dL_append_19 rfl rfl hk
  · refine q_callC (Q' := qX q.1 q.2) (pc := 4) mX9_append 9 [.int a1] dL_append_4 kL_7 fX9_append iX9_append ⟨by decide, by decide⟩ rfl rfl rfl (Nat.le_of_ble_eq_true rfl) (og e) (mc1 := 1) (ms1 := 6) (mc2 := 0) (ms2 := 0) (by decide) (by decide) (C_X9_append S a0 a1 (.inr q) e (qX_mk q.1 q.2)) (fun v n' h' hq => by cases hq.1) (fun E n' h' hq => ?_)
    obtain ⟨w1, w2, w3⟩ := hq
    cases w1; subst w3
    obtain ⟨r9, hr9, hk9⟩ := H (n' - q.2.1)
    unfold F_L_append at hr9
    rw [e] at hr9
    simp only [Option.bind_some, Sum.elim_inr] at hr9
    have en : q.2.1 + (n' - q.2.1) = n' := by omega
    rw [en] at hr9
    by_cases c0 : q.1 = "java/lang/IllegalArgumentException"
    · rw [if_pos c0] at hr9
      cases hr9
      exact ⟨12, 1, by rw [c0]; exact t_L_append_0, h_L_append_0, hk9⟩
    rw [if_neg c0] at hr9
    by_cases c1 : q.1 = "java/lang/IllegalStateException"
    · rw [if_pos c1] at hr9
      cases hr9
      exact ⟨15, 2, by rw [c1]; exact t_L_append_1, h_L_append_1, hk9⟩
    rw [if_neg c1] at hr9
    cases hr9
def F_L_add (j : Nat) (S : pS) (a0 : Nat) (a1 : Int32) (a2 : Int32) (a3 : Nat) : Option (Int32 × pS) := (F_X9_add S a0 a1 a2).bind fun q => Sum.elim (fun q => (oSJ q.2 a3 .long (0 : Int32) q.1.toInt64).bind fun S1 => some ((0 : Int32), S1)) (fun q => if q.1 = "java/util/NoSuchElementException" then some ((1 : Int32), (q.2.1 + j, gjunk q.2.2 q.2.1)) else if q.1 = "java/lang/IndexOutOfBoundsException" then some ((2 : Int32), (q.2.1 + j, gjunk q.2.2 q.2.1)) else if q.1 = "java/lang/IllegalArgumentException" then some ((3 : Int32), (q.2.1 + j, gjunk q.2.2 q.2.1)) else if q.1 = "java/lang/UnsupportedOperationException" then some ((4 : Int32), (q.2.1 + j, gjunk q.2.2 q.2.1)) else none) q
theorem t_L_add_0 : gCatch mL_add 5 "java/util/NoSuchElementException" 13 := by
  refine ⟨[], ⟨0, 10, 13, 21⟩, [⟨0, 10, 17, 23⟩, ⟨0, 10, 21, 13⟩, ⟨0, 10, 25, 25⟩], rfl, ?_, by decide +kernel, by decide, nL_21.1, by decide, rfl⟩
  exact fun z hz => absurd hz List.not_mem_nil
theorem h_L_add_0 : gHand mL_add 13 1 := ⟨rfl, _, 15, by decide, dL_add_15, dL_add_16, Or.inr ⟨_, dL_add_13, by decide, rfl⟩⟩
theorem t_L_add_1 : gCatch mL_add 5 "java/lang/IndexOutOfBoundsException" 17 := by
  refine ⟨[⟨0, 10, 13, 21⟩], ⟨0, 10, 17, 23⟩, [⟨0, 10, 21, 13⟩, ⟨0, 10, 25, 25⟩], rfl, ?_, by decide +kernel, by decide, nL_23.1, by decide, rfl⟩
  intro z hz
  cases List.mem_singleton.mp hz
  exact ⟨by decide, "java/util/NoSuchElementException", nL_21.1, by decide⟩
theorem h_L_add_1 : gHand mL_add 17 2 := ⟨rfl, _, 19, by decide, dL_add_19, dL_add_20, Or.inr ⟨_, dL_add_17, by decide, rfl⟩⟩
theorem t_L_add_2 : gCatch mL_add 5 "java/lang/IllegalArgumentException" 21 := by
  refine ⟨[⟨0, 10, 13, 21⟩, ⟨0, 10, 17, 23⟩], ⟨0, 10, 21, 13⟩, [⟨0, 10, 25, 25⟩], rfl, ?_, by decide +kernel, by decide, nL_13.1, by decide, rfl⟩
  intro z hz
  rcases List.mem_cons.mp hz with rfl | hz
  · exact ⟨by decide, "java/util/NoSuchElementException", nL_21.1, by decide⟩
  cases List.mem_singleton.mp hz
  exact ⟨by decide, "java/lang/IndexOutOfBoundsException", nL_23.1, by decide⟩
theorem h_L_add_2 : gHand mL_add 21 3 := ⟨rfl, _, 23, by decide, dL_add_23, dL_add_24, Or.inr ⟨_, dL_add_21, by decide, rfl⟩⟩
theorem t_L_add_3 : gCatch mL_add 5 "java/lang/UnsupportedOperationException" 25 := by
  refine ⟨[⟨0, 10, 13, 21⟩, ⟨0, 10, 17, 23⟩, ⟨0, 10, 21, 13⟩], ⟨0, 10, 25, 25⟩, [], rfl, ?_, by decide +kernel, by decide, nL_25.1, by decide, rfl⟩
  intro z hz
  rcases List.mem_cons.mp hz with rfl | hz
  · exact ⟨by decide, "java/util/NoSuchElementException", nL_21.1, by decide⟩
  rcases List.mem_cons.mp hz with rfl | hz
  · exact ⟨by decide, "java/lang/IndexOutOfBoundsException", nL_23.1, by decide⟩
  cases List.mem_singleton.mp hz
  exact ⟨by decide, "java/lang/IllegalArgumentException", nL_13.1, by decide⟩
theorem h_L_add_3 : gHand mL_add 25 4 := ⟨rfl, _, 27, by decide, dL_add_27, dL_add_28, Or.inr ⟨_, dL_add_25, by decide, rfl⟩⟩
set_option maxRecDepth 100000 in
set_option maxHeartbeats 4000000 in
theorem C_L_add {X : pX} {Q : pO → Nat → pF → Prop} (S : pS) (a0 : Nat) (a1 : Int32) (a2 : Int32) (a3 : Nat) (H : ∀ j, ∃ r, F_L_add j S a0 a1 a2 a3 = some r ∧ Q (.inl (some (.int r.1))) r.2.1 r.2.2) (hnx : ∀ (E : String) (n' : Nat) (h' : pF), ¬ Q (.inr E) n' h') : gCW X mL_add [.ref a0, .int a1, .int a2, .ref a3] S.1 S.2 Q 10 1614 := by
  refine gCW_of (by decide) (Nat.le_of_ble_eq_true rfl) hnx ?_
  change gW _ _ _ [some (.ref a0), some (.int a1), some (.int a2), some (.ref a3), none] _ _ _ _ _ _
  obtain ⟨r, hr, hk⟩ := H 0
  unfold F_L_add at hr
  replace hr := obind hr
  obtain ⟨q, e, hr⟩ := hr
  refine r_aload_n (pc := 0) dL_add_0 rfl ?_
  refine r_iconst (pc := 1) (0 : Int32) dL_add_1 (by decide) ?_
  refine r_aload_n (pc := 2) dL_add_2 rfl ?_
  refine r_iload_n (pc := 3) dL_add_3 rfl ?_
  refine r_iload_n (pc := 4) dL_add_4 rfl ?_
  rcases q with q | q
  · simp only [Sum.elim_inl] at hr
    refine q_callC (Q' := qR (some (.int q.1)) q.2) (pc := 5) mX9_add 9 [.int a1, .int a2] dL_add_5 kL_17 fX9_add iX9_add ⟨by decide, by decide⟩ rfl rfl rfl (Nat.le_of_ble_eq_true rfl) (og e) (mc1 := 10) (ms1 := 1614) (mc2 := 0) (ms2 := 0) (by decide) (by decide) (C_X9_add S a0 a1 a2 (.inl q) e (qR_mk (some (.int q.1)) q.2)) (fun v n' h' hq => ?_) (fun E n' h' hq => by cases hq.1)
    obtain ⟨w1, w2, w3⟩ := hq
    cases w1; subst w2; subst w3
    refine r_i2l (pc := 8) dL_add_8 ?_
    replace hr := obind hr
    obtain ⟨S1, es, hr⟩ := hr
    cases hr
    refine q_last (S := q.2) (pc := 9) dL_add_9 es ?_
    refine r_goto (pc := 10) 29 dL_add_10 (by decide) ?_
    refine r_iconst (pc := 29) (0 : Int32) dL_add_29 (by decide) ?_
    exact r_ireturn (pc := 30) .int dL_add_30 rfl rfl hk
  · refine q_callC (Q' := qX q.1 q.2) (pc := 5) mX9_add 9 [.int a1, .int a2] dL_add_5 kL_17 fX9_add iX9_add ⟨by decide, by decide⟩ rfl rfl rfl (Nat.le_of_ble_eq_true rfl) (og e) (mc1 := 10) (ms1 := 1614) (mc2 := 0) (ms2 := 0) (by decide) (by decide) (C_X9_add S a0 a1 a2 (.inr q) e (qX_mk q.1 q.2)) (fun v n' h' hq => by cases hq.1) (fun E n' h' hq => ?_)
    obtain ⟨w1, w2, w3⟩ := hq
    cases w1; subst w3
    obtain ⟨r9, hr9, hk9⟩ := H (n' - q.2.1)
    unfold F_L_add at hr9
    rw [e] at hr9
    simp only [Option.bind_some, Sum.elim_inr] at hr9
    have en : q.2.1 + (n' - q.2.1) = n' := by omega
    rw [en] at hr9
    by_cases c0 : q.1 = "java/util/NoSuchElementException"
    · rw [if_pos c0] at hr9
      cases hr9
      exact ⟨13, 1, by rw [c0]; exact t_L_add_0, h_L_add_0, hk9⟩
    rw [if_neg c0] at hr9
    by_cases c1 : q.1 = "java/lang/IndexOutOfBoundsException"
    · rw [if_pos c1] at hr9
      cases hr9
      exact ⟨17, 2, by rw [c1]; exact t_L_add_1, h_L_add_1, hk9⟩
    rw [if_neg c1] at hr9
    by_cases c2 : q.1 = "java/lang/IllegalArgumentException"
    · rw [if_pos c2] at hr9
      cases hr9
      exact ⟨21, 3, by rw [c2]; exact t_L_add_2, h_L_add_2, hk9⟩
    rw [if_neg c2] at hr9
    by_cases c3 : q.1 = "java/lang/UnsupportedOperationException"
    · rw [if_pos c3] at hr9
      cases hr9
      exact ⟨25, 4, by rw [c3]; exact t_L_add_3, h_L_add_3, hk9⟩
    rw [if_neg c3] at hr9
    cases hr9
def F_L_clone (j : Nat) (S : pS) (a0 : Nat) (a1 : Int32) (a2 : Int32) (a3 : Int32) (a4 : Nat) : Option (Int32 × pS) := (F_X9_clone S a0 a1 a2 a3).bind fun q => Sum.elim (fun q => (oSJ q.2 a4 .long (0 : Int32) q.1.toInt64).bind fun S1 => some ((0 : Int32), S1)) (fun q => if q.1 = "java/util/NoSuchElementException" then some ((1 : Int32), (q.2.1 + j, gjunk q.2.2 q.2.1)) else if q.1 = "java/lang/IndexOutOfBoundsException" then some ((2 : Int32), (q.2.1 + j, gjunk q.2.2 q.2.1)) else if q.1 = "java/lang/UnsupportedOperationException" then some ((3 : Int32), (q.2.1 + j, gjunk q.2.2 q.2.1)) else none) q
theorem t_L_clone_0 : gCatch mL_clone 7 "java/util/NoSuchElementException" 15 := by
  refine ⟨[], ⟨0, 12, 15, 21⟩, [⟨0, 12, 19, 23⟩, ⟨0, 12, 23, 25⟩], rfl, ?_, by decide +kernel, by decide, nL_21.1, by decide, rfl⟩
  exact fun z hz => absurd hz List.not_mem_nil
theorem h_L_clone_0 : gHand mL_clone 15 1 := ⟨rfl, _, 17, by decide, dL_clone_17, dL_clone_18, Or.inr ⟨_, dL_clone_15, by decide, rfl⟩⟩
theorem t_L_clone_1 : gCatch mL_clone 7 "java/lang/IndexOutOfBoundsException" 19 := by
  refine ⟨[⟨0, 12, 15, 21⟩], ⟨0, 12, 19, 23⟩, [⟨0, 12, 23, 25⟩], rfl, ?_, by decide +kernel, by decide, nL_23.1, by decide, rfl⟩
  intro z hz
  cases List.mem_singleton.mp hz
  exact ⟨by decide, "java/util/NoSuchElementException", nL_21.1, by decide⟩
theorem h_L_clone_1 : gHand mL_clone 19 2 := ⟨rfl, _, 21, by decide, dL_clone_21, dL_clone_22, Or.inr ⟨_, dL_clone_19, by decide, rfl⟩⟩
theorem t_L_clone_2 : gCatch mL_clone 7 "java/lang/UnsupportedOperationException" 23 := by
  refine ⟨[⟨0, 12, 15, 21⟩, ⟨0, 12, 19, 23⟩], ⟨0, 12, 23, 25⟩, [], rfl, ?_, by decide +kernel, by decide, nL_25.1, by decide, rfl⟩
  intro z hz
  rcases List.mem_cons.mp hz with rfl | hz
  · exact ⟨by decide, "java/util/NoSuchElementException", nL_21.1, by decide⟩
  cases List.mem_singleton.mp hz
  exact ⟨by decide, "java/lang/IndexOutOfBoundsException", nL_23.1, by decide⟩
theorem h_L_clone_2 : gHand mL_clone 23 3 := ⟨rfl, _, 25, by decide, dL_clone_25, dL_clone_26, Or.inr ⟨_, dL_clone_23, by decide, rfl⟩⟩
set_option maxRecDepth 100000 in
set_option maxHeartbeats 4000000 in
theorem C_L_clone {X : pX} {Q : pO → Nat → pF → Prop} (S : pS) (a0 : Nat) (a1 : Int32) (a2 : Int32) (a3 : Int32) (a4 : Nat) (H : ∀ j, ∃ r, F_L_clone j S a0 a1 a2 a3 a4 = some r ∧ Q (.inl (some (.int r.1))) r.2.1 r.2.2) (hnx : ∀ (E : String) (n' : Nat) (h' : pF), ¬ Q (.inr E) n' h') : gCW X mL_clone [.ref a0, .int a1, .int a2, .int a3, .ref a4] S.1 S.2 Q 10 1614 := by
  refine gCW_of (by decide) (Nat.le_of_ble_eq_true rfl) hnx ?_
  change gW _ _ _ [some (.ref a0), some (.int a1), some (.int a2), some (.int a3), some (.ref a4), none] _ _ _ _ _ _
  obtain ⟨r, hr, hk⟩ := H 0
  unfold F_L_clone at hr
  replace hr := obind hr
  obtain ⟨q, e, hr⟩ := hr
  refine r_aload (pc := 0) dL_clone_0 rfl ?_
  refine r_iconst (pc := 2) (0 : Int32) dL_clone_2 (by decide) ?_
  refine r_aload_n (pc := 3) dL_clone_3 rfl ?_
  refine r_iload_n (pc := 4) dL_clone_4 rfl ?_
  refine r_iload_n (pc := 5) dL_clone_5 rfl ?_
  refine r_iload_n (pc := 6) dL_clone_6 rfl ?_
  rcases q with q | q
  · simp only [Sum.elim_inl] at hr
    refine q_callC (Q' := qR (some (.int q.1)) q.2) (pc := 7) mX9_clone 9 [.int a1, .int a2, .int a3] dL_clone_7 kL_27 fX9_clone iX9_clone ⟨by decide, by decide⟩ rfl rfl rfl (Nat.le_of_ble_eq_true rfl) (og e) (mc1 := 10) (ms1 := 1614) (mc2 := 0) (ms2 := 0) (by decide) (by decide) (C_X9_clone S a0 a1 a2 a3 (.inl q) e (qR_mk (some (.int q.1)) q.2)) (fun v n' h' hq => ?_) (fun E n' h' hq => by cases hq.1)
    obtain ⟨w1, w2, w3⟩ := hq
    cases w1; subst w2; subst w3
    refine r_i2l (pc := 10) dL_clone_10 ?_
    replace hr := obind hr
    obtain ⟨S1, es, hr⟩ := hr
    cases hr
    refine q_last (S := q.2) (pc := 11) dL_clone_11 es ?_
    refine r_goto (pc := 12) 27 dL_clone_12 (by decide) ?_
    refine r_iconst (pc := 27) (0 : Int32) dL_clone_27 (by decide) ?_
    exact r_ireturn (pc := 28) .int dL_clone_28 rfl rfl hk
  · refine q_callC (Q' := qX q.1 q.2) (pc := 7) mX9_clone 9 [.int a1, .int a2, .int a3] dL_clone_7 kL_27 fX9_clone iX9_clone ⟨by decide, by decide⟩ rfl rfl rfl (Nat.le_of_ble_eq_true rfl) (og e) (mc1 := 10) (ms1 := 1614) (mc2 := 0) (ms2 := 0) (by decide) (by decide) (C_X9_clone S a0 a1 a2 a3 (.inr q) e (qX_mk q.1 q.2)) (fun v n' h' hq => by cases hq.1) (fun E n' h' hq => ?_)
    obtain ⟨w1, w2, w3⟩ := hq
    cases w1; subst w3
    obtain ⟨r9, hr9, hk9⟩ := H (n' - q.2.1)
    unfold F_L_clone at hr9
    rw [e] at hr9
    simp only [Option.bind_some, Sum.elim_inr] at hr9
    have en : q.2.1 + (n' - q.2.1) = n' := by omega
    rw [en] at hr9
    by_cases c0 : q.1 = "java/util/NoSuchElementException"
    · rw [if_pos c0] at hr9
      cases hr9
      exact ⟨15, 1, by rw [c0]; exact t_L_clone_0, h_L_clone_0, hk9⟩
    rw [if_neg c0] at hr9
    by_cases c1 : q.1 = "java/lang/IndexOutOfBoundsException"
    · rw [if_pos c1] at hr9
      cases hr9
      exact ⟨19, 2, by rw [c1]; exact t_L_clone_1, h_L_clone_1, hk9⟩
    rw [if_neg c1] at hr9
    by_cases c2 : q.1 = "java/lang/UnsupportedOperationException"
    · rw [if_pos c2] at hr9
      cases hr9
      exact ⟨23, 3, by rw [c2]; exact t_L_clone_2, h_L_clone_2, hk9⟩
    rw [if_neg c2] at hr9
    cases hr9
def F_L_detach (j : Nat) (S : pS) (a0 : Nat) (a1 : Int32) (a2 : Int32) (a3 : Nat) : Option (Int32 × pS) := (F_X9_detach S a0 a1 a2).bind fun q => Sum.elim (fun q => (oSJ q.2 a3 .long (0 : Int32) q.1.toInt64).bind fun S1 => some ((0 : Int32), S1)) (fun q => if q.1 = "java/util/NoSuchElementException" then some ((1 : Int32), (q.2.1 + j, gjunk q.2.2 q.2.1)) else if q.1 = "java/lang/IndexOutOfBoundsException" then some ((2 : Int32), (q.2.1 + j, gjunk q.2.2 q.2.1)) else none) q
theorem t_L_detach_0 : gCatch mL_detach 5 "java/util/NoSuchElementException" 13 := by
  refine ⟨[], ⟨0, 10, 13, 21⟩, [⟨0, 10, 17, 23⟩], rfl, ?_, by decide +kernel, by decide, nL_21.1, by decide, rfl⟩
  exact fun z hz => absurd hz List.not_mem_nil
theorem h_L_detach_0 : gHand mL_detach 13 1 := ⟨rfl, _, 15, by decide, dL_detach_15, dL_detach_16, Or.inr ⟨_, dL_detach_13, by decide, rfl⟩⟩
theorem t_L_detach_1 : gCatch mL_detach 5 "java/lang/IndexOutOfBoundsException" 17 := by
  refine ⟨[⟨0, 10, 13, 21⟩], ⟨0, 10, 17, 23⟩, [], rfl, ?_, by decide +kernel, by decide, nL_23.1, by decide, rfl⟩
  intro z hz
  cases List.mem_singleton.mp hz
  exact ⟨by decide, "java/util/NoSuchElementException", nL_21.1, by decide⟩
theorem h_L_detach_1 : gHand mL_detach 17 2 := ⟨rfl, _, 19, by decide, dL_detach_19, dL_detach_20, Or.inr ⟨_, dL_detach_17, by decide, rfl⟩⟩
set_option maxRecDepth 100000 in
set_option maxHeartbeats 4000000 in
theorem C_L_detach {X : pX} {Q : pO → Nat → pF → Prop} (S : pS) (a0 : Nat) (a1 : Int32) (a2 : Int32) (a3 : Nat) (H : ∀ j, ∃ r, F_L_detach j S a0 a1 a2 a3 = some r ∧ Q (.inl (some (.int r.1))) r.2.1 r.2.2) (hnx : ∀ (E : String) (n' : Nat) (h' : pF), ¬ Q (.inr E) n' h') : gCW X mL_detach [.ref a0, .int a1, .int a2, .ref a3] S.1 S.2 Q 9 1608 := by
  refine gCW_of (by decide) (Nat.le_of_ble_eq_true rfl) hnx ?_
  change gW _ _ _ [some (.ref a0), some (.int a1), some (.int a2), some (.ref a3), none] _ _ _ _ _ _
  obtain ⟨r, hr, hk⟩ := H 0
  unfold F_L_detach at hr
  replace hr := obind hr
  obtain ⟨q, e, hr⟩ := hr
  refine r_aload_n (pc := 0) dL_detach_0 rfl ?_
  refine r_iconst (pc := 1) (0 : Int32) dL_detach_1 (by decide) ?_
  refine r_aload_n (pc := 2) dL_detach_2 rfl ?_
  refine r_iload_n (pc := 3) dL_detach_3 rfl ?_
  refine r_iload_n (pc := 4) dL_detach_4 rfl ?_
  rcases q with q | q
  · simp only [Sum.elim_inl] at hr
    refine q_callC (Q' := qR (some (.int q.1)) q.2) (pc := 5) mX9_detach 9 [.int a1, .int a2] dL_detach_5 kL_31 fX9_detach iX9_detach ⟨by decide, by decide⟩ rfl rfl rfl (Nat.le_of_ble_eq_true rfl) (og e) (mc1 := 9) (ms1 := 1608) (mc2 := 0) (ms2 := 0) (by decide) (by decide) (C_X9_detach S a0 a1 a2 (.inl q) e (qR_mk (some (.int q.1)) q.2)) (fun v n' h' hq => ?_) (fun E n' h' hq => by cases hq.1)
    obtain ⟨w1, w2, w3⟩ := hq
    cases w1; subst w2; subst w3
    refine r_i2l (pc := 8) dL_detach_8 ?_
    replace hr := obind hr
    obtain ⟨S1, es, hr⟩ := hr
    cases hr
    refine q_last (S := q.2) (pc := 9) dL_detach_9 es ?_
    refine r_goto (pc := 10) 21 dL_detach_10 (by decide) ?_
    refine r_iconst (pc := 21) (0 : Int32) dL_detach_21 (by decide) ?_
    exact r_ireturn (pc := 22) .int dL_detach_22 rfl rfl hk
  · refine q_callC (Q' := qX q.1 q.2) (pc := 5) mX9_detach 9 [.int a1, .int a2] dL_detach_5 kL_31 fX9_detach iX9_detach ⟨by decide, by decide⟩ rfl rfl rfl (Nat.le_of_ble_eq_true rfl) (og e) (mc1 := 9) (ms1 := 1608) (mc2 := 0) (ms2 := 0) (by decide) (by decide) (C_X9_detach S a0 a1 a2 (.inr q) e (qX_mk q.1 q.2)) (fun v n' h' hq => by cases hq.1) (fun E n' h' hq => ?_)
    obtain ⟨w1, w2, w3⟩ := hq
    cases w1; subst w3
    obtain ⟨r9, hr9, hk9⟩ := H (n' - q.2.1)
    unfold F_L_detach at hr9
    rw [e] at hr9
    simp only [Option.bind_some, Sum.elim_inr] at hr9
    have en : q.2.1 + (n' - q.2.1) = n' := by omega
    rw [en] at hr9
    by_cases c0 : q.1 = "java/util/NoSuchElementException"
    · rw [if_pos c0] at hr9
      cases hr9
      exact ⟨13, 1, by rw [c0]; exact t_L_detach_0, h_L_detach_0, hk9⟩
    rw [if_neg c0] at hr9
    by_cases c1 : q.1 = "java/lang/IndexOutOfBoundsException"
    · rw [if_pos c1] at hr9
      cases hr9
      exact ⟨17, 2, by rw [c1]; exact t_L_detach_1, h_L_detach_1, hk9⟩
    rw [if_neg c1] at hr9
    cases hr9
def F_L_moveBlock (j : Nat) (S : pS) (a0 : Nat) (a1 : Int32) (a2 : Int32) (a3 : Int32) (a4 : Int32) (a5 : Int32) (a6 : Nat) : Option (Int32 × pS) := (F_X9_moveBlock S a0 a1 a2 a3 a4 a5).bind fun q => Sum.elim (fun q => (oSJ q.2 a6 .long (0 : Int32) q.1.toInt64).bind fun S1 => some ((0 : Int32), S1)) (fun q => if q.1 = "java/util/NoSuchElementException" then some ((1 : Int32), (q.2.1 + j, gjunk q.2.2 q.2.1)) else if q.1 = "java/lang/IndexOutOfBoundsException" then some ((2 : Int32), (q.2.1 + j, gjunk q.2.2 q.2.1)) else if q.1 = "java/lang/UnsupportedOperationException" then some ((3 : Int32), (q.2.1 + j, gjunk q.2.2 q.2.1)) else none) q
theorem t_L_moveBlock_0 : gCatch mL_moveBlock 11 "java/util/NoSuchElementException" 19 := by
  refine ⟨[], ⟨0, 16, 19, 21⟩, [⟨0, 16, 23, 23⟩, ⟨0, 16, 27, 25⟩], rfl, ?_, by decide +kernel, by decide, nL_21.1, by decide, rfl⟩
  exact fun z hz => absurd hz List.not_mem_nil
theorem h_L_moveBlock_0 : gHand mL_moveBlock 19 1 := ⟨rfl, _, 21, by decide, dL_moveBlock_21, dL_moveBlock_22, Or.inr ⟨_, dL_moveBlock_19, by decide, rfl⟩⟩
theorem t_L_moveBlock_1 : gCatch mL_moveBlock 11 "java/lang/IndexOutOfBoundsException" 23 := by
  refine ⟨[⟨0, 16, 19, 21⟩], ⟨0, 16, 23, 23⟩, [⟨0, 16, 27, 25⟩], rfl, ?_, by decide +kernel, by decide, nL_23.1, by decide, rfl⟩
  intro z hz
  cases List.mem_singleton.mp hz
  exact ⟨by decide, "java/util/NoSuchElementException", nL_21.1, by decide⟩
theorem h_L_moveBlock_1 : gHand mL_moveBlock 23 2 := ⟨rfl, _, 25, by decide, dL_moveBlock_25, dL_moveBlock_26, Or.inr ⟨_, dL_moveBlock_23, by decide, rfl⟩⟩
theorem t_L_moveBlock_2 : gCatch mL_moveBlock 11 "java/lang/UnsupportedOperationException" 27 := by
  refine ⟨[⟨0, 16, 19, 21⟩, ⟨0, 16, 23, 23⟩], ⟨0, 16, 27, 25⟩, [], rfl, ?_, by decide +kernel, by decide, nL_25.1, by decide, rfl⟩
  intro z hz
  rcases List.mem_cons.mp hz with rfl | hz
  · exact ⟨by decide, "java/util/NoSuchElementException", nL_21.1, by decide⟩
  cases List.mem_singleton.mp hz
  exact ⟨by decide, "java/lang/IndexOutOfBoundsException", nL_23.1, by decide⟩
theorem h_L_moveBlock_2 : gHand mL_moveBlock 27 3 := ⟨rfl, _, 29, by decide, dL_moveBlock_29, dL_moveBlock_30, Or.inr ⟨_, dL_moveBlock_27, by decide, rfl⟩⟩
set_option maxRecDepth 100000 in
set_option maxHeartbeats 4000000 in
theorem C_L_moveBlock {X : pX} {Q : pO → Nat → pF → Prop} (S : pS) (a0 : Nat) (a1 : Int32) (a2 : Int32) (a3 : Int32) (a4 : Int32) (a5 : Int32) (a6 : Nat) (H : ∀ j, ∃ r, F_L_moveBlock j S a0 a1 a2 a3 a4 a5 a6 = some r ∧ Q (.inl (some (.int r.1))) r.2.1 r.2.2) (hnx : ∀ (E : String) (n' : Nat) (h' : pF), ¬ Q (.inr E) n' h') : gCW X mL_moveBlock [.ref a0, .int a1, .int a2, .int a3, .int a4, .int a5, .ref a6] S.1 S.2 Q 12 1626 := by
  refine gCW_of (by decide) (Nat.le_of_ble_eq_true rfl) hnx ?_
  change gW _ _ _ [some (.ref a0), some (.int a1), some (.int a2), some (.int a3), some (.int a4), some (.int a5), some (.ref a6), none] _ _ _ _ _ _
  obtain ⟨r, hr, hk⟩ := H 0
  unfold F_L_moveBlock at hr
  replace hr := obind hr
  obtain ⟨q, e, hr⟩ := hr
  refine r_aload (pc := 0) dL_moveBlock_0 rfl ?_
  refine r_iconst (pc := 2) (0 : Int32) dL_moveBlock_2 (by decide) ?_
  refine r_aload_n (pc := 3) dL_moveBlock_3 rfl ?_
  refine r_iload_n (pc := 4) dL_moveBlock_4 rfl ?_
  refine r_iload_n (pc := 5) dL_moveBlock_5 rfl ?_
  refine r_iload_n (pc := 6) dL_moveBlock_6 rfl ?_
  refine r_iload (pc := 7) dL_moveBlock_7 rfl ?_
  refine r_iload (pc := 9) dL_moveBlock_9 rfl ?_
  rcases q with q | q
  · simp only [Sum.elim_inl] at hr
    refine q_callC (Q' := qR (some (.int q.1)) q.2) (pc := 11) mX9_moveBlock 9 [.int a1, .int a2, .int a3, .int a4, .int a5] dL_moveBlock_11 kL_34 fX9_moveBlock iX9_moveBlock ⟨by decide, by decide⟩ rfl rfl rfl (Nat.le_of_ble_eq_true rfl) (og e) (mc1 := 12) (ms1 := 1626) (mc2 := 0) (ms2 := 0) (by decide) (by decide) (C_X9_moveBlock S a0 a1 a2 a3 a4 a5 (.inl q) e (qR_mk (some (.int q.1)) q.2)) (fun v n' h' hq => ?_) (fun E n' h' hq => by cases hq.1)
    obtain ⟨w1, w2, w3⟩ := hq
    cases w1; subst w2; subst w3
    refine r_i2l (pc := 14) dL_moveBlock_14 ?_
    replace hr := obind hr
    obtain ⟨S1, es, hr⟩ := hr
    cases hr
    refine q_last (S := q.2) (pc := 15) dL_moveBlock_15 es ?_
    refine r_goto (pc := 16) 31 dL_moveBlock_16 (by decide) ?_
    refine r_iconst (pc := 31) (0 : Int32) dL_moveBlock_31 (by decide) ?_
    exact r_ireturn (pc := 32) .int dL_moveBlock_32 rfl rfl hk
  · refine q_callC (Q' := qX q.1 q.2) (pc := 11) mX9_moveBlock 9 [.int a1, .int a2, .int a3, .int a4, .int a5] dL_moveBlock_11 kL_34 fX9_moveBlock iX9_moveBlock ⟨by decide, by decide⟩ rfl rfl rfl (Nat.le_of_ble_eq_true rfl) (og e) (mc1 := 12) (ms1 := 1626) (mc2 := 0) (ms2 := 0) (by decide) (by decide) (C_X9_moveBlock S a0 a1 a2 a3 a4 a5 (.inr q) e (qX_mk q.1 q.2)) (fun v n' h' hq => by cases hq.1) (fun E n' h' hq => ?_)
    obtain ⟨w1, w2, w3⟩ := hq
    cases w1; subst w3
    obtain ⟨r9, hr9, hk9⟩ := H (n' - q.2.1)
    unfold F_L_moveBlock at hr9
    rw [e] at hr9
    simp only [Option.bind_some, Sum.elim_inr] at hr9
    have en : q.2.1 + (n' - q.2.1) = n' := by omega
    rw [en] at hr9
    by_cases c0 : q.1 = "java/util/NoSuchElementException"
    · rw [if_pos c0] at hr9
      cases hr9
      exact ⟨19, 1, by rw [c0]; exact t_L_moveBlock_0, h_L_moveBlock_0, hk9⟩
    rw [if_neg c0] at hr9
    by_cases c1 : q.1 = "java/lang/IndexOutOfBoundsException"
    · rw [if_pos c1] at hr9
      cases hr9
      exact ⟨23, 2, by rw [c1]; exact t_L_moveBlock_1, h_L_moveBlock_1, hk9⟩
    rw [if_neg c1] at hr9
    by_cases c2 : q.1 = "java/lang/UnsupportedOperationException"
    · rw [if_pos c2] at hr9
      cases hr9
      exact ⟨27, 3, by rw [c2]; exact t_L_moveBlock_2, h_L_moveBlock_2, hk9⟩
    rw [if_neg c2] at hr9
    cases hr9
def F_L_indent (j : Nat) (S : pS) (a0 : Nat) (a1 : Int32) (a2 : Nat) : Option (Int32 × pS) := (F_X9_indent S a0 a1).bind fun q => Sum.elim (fun q => (oSJ q.2 a2 .long (0 : Int32) q.1.toInt64).bind fun S1 => some ((0 : Int32), S1)) (fun q => if q.1 = "java/util/NoSuchElementException" then some ((1 : Int32), (q.2.1 + j, gjunk q.2.2 q.2.1)) else if q.1 = "java/lang/IllegalStateException" then some ((2 : Int32), (q.2.1 + j, gjunk q.2.2 q.2.1)) else if q.1 = "java/lang/UnsupportedOperationException" then some ((3 : Int32), (q.2.1 + j, gjunk q.2.2 q.2.1)) else none) q
theorem t_L_indent_0 : gCatch mL_indent 4 "java/util/NoSuchElementException" 12 := by
  refine ⟨[], ⟨0, 9, 12, 21⟩, [⟨0, 9, 15, 15⟩, ⟨0, 9, 18, 25⟩], rfl, ?_, by decide +kernel, by decide, nL_21.1, by decide, rfl⟩
  exact fun z hz => absurd hz List.not_mem_nil
theorem h_L_indent_0 : gHand mL_indent 12 1 := ⟨rfl, _, 13, by decide, dL_indent_13, dL_indent_14, Or.inl ⟨_, dL_indent_12, by decide, rfl⟩⟩
theorem t_L_indent_1 : gCatch mL_indent 4 "java/lang/IllegalStateException" 15 := by
  refine ⟨[⟨0, 9, 12, 21⟩], ⟨0, 9, 15, 15⟩, [⟨0, 9, 18, 25⟩], rfl, ?_, by decide +kernel, by decide, nL_15.1, by decide, rfl⟩
  intro z hz
  cases List.mem_singleton.mp hz
  exact ⟨by decide, "java/util/NoSuchElementException", nL_21.1, by decide⟩
theorem h_L_indent_1 : gHand mL_indent 15 2 := ⟨rfl, _, 16, by decide, dL_indent_16, dL_indent_17, Or.inl ⟨_, dL_indent_15, by decide, rfl⟩⟩
theorem t_L_indent_2 : gCatch mL_indent 4 "java/lang/UnsupportedOperationException" 18 := by
  refine ⟨[⟨0, 9, 12, 21⟩, ⟨0, 9, 15, 15⟩], ⟨0, 9, 18, 25⟩, [], rfl, ?_, by decide +kernel, by decide, nL_25.1, by decide, rfl⟩
  intro z hz
  rcases List.mem_cons.mp hz with rfl | hz
  · exact ⟨by decide, "java/util/NoSuchElementException", nL_21.1, by decide⟩
  cases List.mem_singleton.mp hz
  exact ⟨by decide, "java/lang/IllegalStateException", nL_15.1, by decide⟩
theorem h_L_indent_2 : gHand mL_indent 18 3 := ⟨rfl, _, 19, by decide, dL_indent_19, dL_indent_20, Or.inl ⟨_, dL_indent_18, by decide, rfl⟩⟩
set_option maxRecDepth 100000 in
set_option maxHeartbeats 4000000 in
theorem C_L_indent {X : pX} {Q : pO → Nat → pF → Prop} (S : pS) (a0 : Nat) (a1 : Int32) (a2 : Nat) (H : ∀ j, ∃ r, F_L_indent j S a0 a1 a2 = some r ∧ Q (.inl (some (.int r.1))) r.2.1 r.2.2) (hnx : ∀ (E : String) (n' : Nat) (h' : pF), ¬ Q (.inr E) n' h') : gCW X mL_indent [.ref a0, .int a1, .ref a2] S.1 S.2 Q 8 1602 := by
  refine gCW_of (by decide) (Nat.le_of_ble_eq_true rfl) hnx ?_
  change gW _ _ _ [some (.ref a0), some (.int a1), some (.ref a2), none] _ _ _ _ _ _
  obtain ⟨r, hr, hk⟩ := H 0
  unfold F_L_indent at hr
  replace hr := obind hr
  obtain ⟨q, e, hr⟩ := hr
  refine r_aload_n (pc := 0) dL_indent_0 rfl ?_
  refine r_iconst (pc := 1) (0 : Int32) dL_indent_1 (by decide) ?_
  refine r_aload_n (pc := 2) dL_indent_2 rfl ?_
  refine r_iload_n (pc := 3) dL_indent_3 rfl ?_
  rcases q with q | q
  · simp only [Sum.elim_inl] at hr
    refine q_callC (Q' := qR (some (.int q.1)) q.2) (pc := 4) mX9_indent 9 [.int a1] dL_indent_4 kL_38 fX9_indent iX9_indent ⟨by decide, by decide⟩ rfl rfl rfl (Nat.le_of_ble_eq_true rfl) (og e) (mc1 := 8) (ms1 := 1602) (mc2 := 0) (ms2 := 0) (by decide) (by decide) (C_X9_indent S a0 a1 (.inl q) e (qR_mk (some (.int q.1)) q.2)) (fun v n' h' hq => ?_) (fun E n' h' hq => by cases hq.1)
    obtain ⟨w1, w2, w3⟩ := hq
    cases w1; subst w2; subst w3
    refine r_i2l (pc := 7) dL_indent_7 ?_
    replace hr := obind hr
    obtain ⟨S1, es, hr⟩ := hr
    cases hr
    refine q_last (S := q.2) (pc := 8) dL_indent_8 es ?_
    refine r_goto (pc := 9) 21 dL_indent_9 (by decide) ?_
    refine r_iconst (pc := 21) (0 : Int32) dL_indent_21 (by decide) ?_
    exact r_ireturn (pc := 22) .int dL_indent_22 rfl rfl hk
  · refine q_callC (Q' := qX q.1 q.2) (pc := 4) mX9_indent 9 [.int a1] dL_indent_4 kL_38 fX9_indent iX9_indent ⟨by decide, by decide⟩ rfl rfl rfl (Nat.le_of_ble_eq_true rfl) (og e) (mc1 := 8) (ms1 := 1602) (mc2 := 0) (ms2 := 0) (by decide) (by decide) (C_X9_indent S a0 a1 (.inr q) e (qX_mk q.1 q.2)) (fun v n' h' hq => by cases hq.1) (fun E n' h' hq => ?_)
    obtain ⟨w1, w2, w3⟩ := hq
    cases w1; subst w3
    obtain ⟨r9, hr9, hk9⟩ := H (n' - q.2.1)
    unfold F_L_indent at hr9
    rw [e] at hr9
    simp only [Option.bind_some, Sum.elim_inr] at hr9
    have en : q.2.1 + (n' - q.2.1) = n' := by omega
    rw [en] at hr9
    by_cases c0 : q.1 = "java/util/NoSuchElementException"
    · rw [if_pos c0] at hr9
      cases hr9
      exact ⟨12, 1, by rw [c0]; exact t_L_indent_0, h_L_indent_0, hk9⟩
    rw [if_neg c0] at hr9
    by_cases c1 : q.1 = "java/lang/IllegalStateException"
    · rw [if_pos c1] at hr9
      cases hr9
      exact ⟨15, 2, by rw [c1]; exact t_L_indent_1, h_L_indent_1, hk9⟩
    rw [if_neg c1] at hr9
    by_cases c2 : q.1 = "java/lang/UnsupportedOperationException"
    · rw [if_pos c2] at hr9
      cases hr9
      exact ⟨18, 3, by rw [c2]; exact t_L_indent_2, h_L_indent_2, hk9⟩
    rw [if_neg c2] at hr9
    cases hr9
def F_L_outdent (j : Nat) (S : pS) (a0 : Nat) (a1 : Int32) (a2 : Nat) : Option (Int32 × pS) := (F_X9_outdent S a0 a1).bind fun q => Sum.elim (fun q => (oSJ q.2 a2 .long (0 : Int32) q.1.toInt64).bind fun S1 => some ((0 : Int32), S1)) (fun q => if q.1 = "java/util/NoSuchElementException" then some ((1 : Int32), (q.2.1 + j, gjunk q.2.2 q.2.1)) else if q.1 = "java/lang/IllegalStateException" then some ((2 : Int32), (q.2.1 + j, gjunk q.2.2 q.2.1)) else if q.1 = "java/lang/UnsupportedOperationException" then some ((3 : Int32), (q.2.1 + j, gjunk q.2.2 q.2.1)) else none) q
theorem t_L_outdent_0 : gCatch mL_outdent 4 "java/util/NoSuchElementException" 12 := by
  refine ⟨[], ⟨0, 9, 12, 21⟩, [⟨0, 9, 15, 15⟩, ⟨0, 9, 18, 25⟩], rfl, ?_, by decide +kernel, by decide, nL_21.1, by decide, rfl⟩
  exact fun z hz => absurd hz List.not_mem_nil
theorem h_L_outdent_0 : gHand mL_outdent 12 1 := ⟨rfl, _, 13, by decide, dL_outdent_13, dL_outdent_14, Or.inl ⟨_, dL_outdent_12, by decide, rfl⟩⟩
theorem t_L_outdent_1 : gCatch mL_outdent 4 "java/lang/IllegalStateException" 15 := by
  refine ⟨[⟨0, 9, 12, 21⟩], ⟨0, 9, 15, 15⟩, [⟨0, 9, 18, 25⟩], rfl, ?_, by decide +kernel, by decide, nL_15.1, by decide, rfl⟩
  intro z hz
  cases List.mem_singleton.mp hz
  exact ⟨by decide, "java/util/NoSuchElementException", nL_21.1, by decide⟩
theorem h_L_outdent_1 : gHand mL_outdent 15 2 := ⟨rfl, _, 16, by decide, dL_outdent_16, dL_outdent_17, Or.inl ⟨_, dL_outdent_15, by decide, rfl⟩⟩
theorem t_L_outdent_2 : gCatch mL_outdent 4 "java/lang/UnsupportedOperationException" 18 := by
  refine ⟨[⟨0, 9, 12, 21⟩, ⟨0, 9, 15, 15⟩], ⟨0, 9, 18, 25⟩, [], rfl, ?_, by decide +kernel, by decide, nL_25.1, by decide, rfl⟩
  intro z hz
  rcases List.mem_cons.mp hz with rfl | hz
  · exact ⟨by decide, "java/util/NoSuchElementException", nL_21.1, by decide⟩
  cases List.mem_singleton.mp hz
  exact ⟨by decide, "java/lang/IllegalStateException", nL_15.1, by decide⟩
theorem h_L_outdent_2 : gHand mL_outdent 18 3 := ⟨rfl, _, 19, by decide, dL_outdent_19, dL_outdent_20, Or.inl ⟨_, dL_outdent_18, by decide, rfl⟩⟩
set_option maxRecDepth 100000 in
set_option maxHeartbeats 4000000 in
theorem C_L_outdent {X : pX} {Q : pO → Nat → pF → Prop} (S : pS) (a0 : Nat) (a1 : Int32) (a2 : Nat) (H : ∀ j, ∃ r, F_L_outdent j S a0 a1 a2 = some r ∧ Q (.inl (some (.int r.1))) r.2.1 r.2.2) (hnx : ∀ (E : String) (n' : Nat) (h' : pF), ¬ Q (.inr E) n' h') : gCW X mL_outdent [.ref a0, .int a1, .ref a2] S.1 S.2 Q 8 1602 := by
  refine gCW_of (by decide) (Nat.le_of_ble_eq_true rfl) hnx ?_
  change gW _ _ _ [some (.ref a0), some (.int a1), some (.ref a2), none] _ _ _ _ _ _
  obtain ⟨r, hr, hk⟩ := H 0
  unfold F_L_outdent at hr
  replace hr := obind hr
  obtain ⟨q, e, hr⟩ := hr
  refine r_aload_n (pc := 0) dL_outdent_0 rfl ?_
  refine r_iconst (pc := 1) (0 : Int32) dL_outdent_1 (by decide) ?_
  refine r_aload_n (pc := 2) dL_outdent_2 rfl ?_
  refine r_iload_n (pc := 3) dL_outdent_3 rfl ?_
  rcases q with q | q
  · simp only [Sum.elim_inl] at hr
    refine q_callC (Q' := qR (some (.int q.1)) q.2) (pc := 4) mX9_outdent 9 [.int a1] dL_outdent_4 kL_41 fX9_outdent iX9_outdent ⟨by decide, by decide⟩ rfl rfl rfl (Nat.le_of_ble_eq_true rfl) (og e) (mc1 := 8) (ms1 := 1602) (mc2 := 0) (ms2 := 0) (by decide) (by decide) (C_X9_outdent S a0 a1 (.inl q) e (qR_mk (some (.int q.1)) q.2)) (fun v n' h' hq => ?_) (fun E n' h' hq => by cases hq.1)
    obtain ⟨w1, w2, w3⟩ := hq
    cases w1; subst w2; subst w3
    refine r_i2l (pc := 7) dL_outdent_7 ?_
    replace hr := obind hr
    obtain ⟨S1, es, hr⟩ := hr
    cases hr
    refine q_last (S := q.2) (pc := 8) dL_outdent_8 es ?_
    refine r_goto (pc := 9) 21 dL_outdent_9 (by decide) ?_
    refine r_iconst (pc := 21) (0 : Int32) dL_outdent_21 (by decide) ?_
    exact r_ireturn (pc := 22) .int dL_outdent_22 rfl rfl hk
  · refine q_callC (Q' := qX q.1 q.2) (pc := 4) mX9_outdent 9 [.int a1] dL_outdent_4 kL_41 fX9_outdent iX9_outdent ⟨by decide, by decide⟩ rfl rfl rfl (Nat.le_of_ble_eq_true rfl) (og e) (mc1 := 8) (ms1 := 1602) (mc2 := 0) (ms2 := 0) (by decide) (by decide) (C_X9_outdent S a0 a1 (.inr q) e (qX_mk q.1 q.2)) (fun v n' h' hq => by cases hq.1) (fun E n' h' hq => ?_)
    obtain ⟨w1, w2, w3⟩ := hq
    cases w1; subst w3
    obtain ⟨r9, hr9, hk9⟩ := H (n' - q.2.1)
    unfold F_L_outdent at hr9
    rw [e] at hr9
    simp only [Option.bind_some, Sum.elim_inr] at hr9
    have en : q.2.1 + (n' - q.2.1) = n' := by omega
    rw [en] at hr9
    by_cases c0 : q.1 = "java/util/NoSuchElementException"
    · rw [if_pos c0] at hr9
      cases hr9
      exact ⟨12, 1, by rw [c0]; exact t_L_outdent_0, h_L_outdent_0, hk9⟩
    rw [if_neg c0] at hr9
    by_cases c1 : q.1 = "java/lang/IllegalStateException"
    · rw [if_pos c1] at hr9
      cases hr9
      exact ⟨15, 2, by rw [c1]; exact t_L_outdent_1, h_L_outdent_1, hk9⟩
    rw [if_neg c1] at hr9
    by_cases c2 : q.1 = "java/lang/UnsupportedOperationException"
    · rw [if_pos c2] at hr9
      cases hr9
      exact ⟨18, 3, by rw [c2]; exact t_L_outdent_2, h_L_outdent_2, hk9⟩
    rw [if_neg c2] at hr9
    cases hr9
def F_L_rename (j : Nat) (S : pS) (a0 : Nat) (a1 : Int32) (a2 : Nat) : Option (Int32 × pS) := (F_X9_rename S a0 a1).bind fun q => Sum.elim (fun q => (oSJ q.2 a2 .long (0 : Int32) q.1.toInt64).bind fun S1 => some ((0 : Int32), S1)) (fun q => if q.1 = "java/util/NoSuchElementException" then some ((1 : Int32), (q.2.1 + j, gjunk q.2.2 q.2.1)) else if q.1 = "java/lang/IllegalArgumentException" then some ((2 : Int32), (q.2.1 + j, gjunk q.2.2 q.2.1)) else none) q
theorem t_L_rename_0 : gCatch mL_rename 4 "java/util/NoSuchElementException" 12 := by
  refine ⟨[], ⟨0, 9, 12, 21⟩, [⟨0, 9, 15, 13⟩], rfl, ?_, by decide +kernel, by decide, nL_21.1, by decide, rfl⟩
  exact fun z hz => absurd hz List.not_mem_nil
theorem h_L_rename_0 : gHand mL_rename 12 1 := ⟨rfl, _, 13, by decide, dL_rename_13, dL_rename_14, Or.inl ⟨_, dL_rename_12, by decide, rfl⟩⟩
theorem t_L_rename_1 : gCatch mL_rename 4 "java/lang/IllegalArgumentException" 15 := by
  refine ⟨[⟨0, 9, 12, 21⟩], ⟨0, 9, 15, 13⟩, [], rfl, ?_, by decide +kernel, by decide, nL_13.1, by decide, rfl⟩
  intro z hz
  cases List.mem_singleton.mp hz
  exact ⟨by decide, "java/util/NoSuchElementException", nL_21.1, by decide⟩
theorem h_L_rename_1 : gHand mL_rename 15 2 := ⟨rfl, _, 16, by decide, dL_rename_16, dL_rename_17, Or.inl ⟨_, dL_rename_15, by decide, rfl⟩⟩
set_option maxRecDepth 100000 in
set_option maxHeartbeats 4000000 in
theorem C_L_rename {X : pX} {Q : pO → Nat → pF → Prop} (S : pS) (a0 : Nat) (a1 : Int32) (a2 : Nat) (H : ∀ j, ∃ r, F_L_rename j S a0 a1 a2 = some r ∧ Q (.inl (some (.int r.1))) r.2.1 r.2.2) (hnx : ∀ (E : String) (n' : Nat) (h' : pF), ¬ Q (.inr E) n' h') : gCW X mL_rename [.ref a0, .int a1, .ref a2] S.1 S.2 Q 9 1608 := by
  refine gCW_of (by decide) (Nat.le_of_ble_eq_true rfl) hnx ?_
  change gW _ _ _ [some (.ref a0), some (.int a1), some (.ref a2), none] _ _ _ _ _ _
  obtain ⟨r, hr, hk⟩ := H 0
  unfold F_L_rename at hr
  replace hr := obind hr
  obtain ⟨q, e, hr⟩ := hr
  refine r_aload_n (pc := 0) dL_rename_0 rfl ?_
  refine r_iconst (pc := 1) (0 : Int32) dL_rename_1 (by decide) ?_
  refine r_aload_n (pc := 2) dL_rename_2 rfl ?_
  refine r_iload_n (pc := 3) dL_rename_3 rfl ?_
  rcases q with q | q
  · simp only [Sum.elim_inl] at hr
    refine q_callC (Q' := qR (some (.int q.1)) q.2) (pc := 4) mX9_rename 9 [.int a1] dL_rename_4 kL_44 fX9_rename iX9_rename ⟨by decide, by decide⟩ rfl rfl rfl (Nat.le_of_ble_eq_true rfl) (og e) (mc1 := 9) (ms1 := 1608) (mc2 := 0) (ms2 := 0) (by decide) (by decide) (C_X9_rename S a0 a1 (.inl q) e (qR_mk (some (.int q.1)) q.2)) (fun v n' h' hq => ?_) (fun E n' h' hq => by cases hq.1)
    obtain ⟨w1, w2, w3⟩ := hq
    cases w1; subst w2; subst w3
    refine r_i2l (pc := 7) dL_rename_7 ?_
    replace hr := obind hr
    obtain ⟨S1, es, hr⟩ := hr
    cases hr
    refine q_last (S := q.2) (pc := 8) dL_rename_8 es ?_
    refine r_goto (pc := 9) 18 dL_rename_9 (by decide) ?_
    refine r_iconst (pc := 18) (0 : Int32) dL_rename_18 (by decide) ?_
    exact r_ireturn (pc := 19) .int dL_rename_19 rfl rfl hk
  · refine q_callC (Q' := qX q.1 q.2) (pc := 4) mX9_rename 9 [.int a1] dL_rename_4 kL_44 fX9_rename iX9_rename ⟨by decide, by decide⟩ rfl rfl rfl (Nat.le_of_ble_eq_true rfl) (og e) (mc1 := 9) (ms1 := 1608) (mc2 := 0) (ms2 := 0) (by decide) (by decide) (C_X9_rename S a0 a1 (.inr q) e (qX_mk q.1 q.2)) (fun v n' h' hq => by cases hq.1) (fun E n' h' hq => ?_)
    obtain ⟨w1, w2, w3⟩ := hq
    cases w1; subst w3
    obtain ⟨r9, hr9, hk9⟩ := H (n' - q.2.1)
    unfold F_L_rename at hr9
    rw [e] at hr9
    simp only [Option.bind_some, Sum.elim_inr] at hr9
    have en : q.2.1 + (n' - q.2.1) = n' := by omega
    rw [en] at hr9
    by_cases c0 : q.1 = "java/util/NoSuchElementException"
    · rw [if_pos c0] at hr9
      cases hr9
      exact ⟨12, 1, by rw [c0]; exact t_L_rename_0, h_L_rename_0, hk9⟩
    rw [if_neg c0] at hr9
    by_cases c1 : q.1 = "java/lang/IllegalArgumentException"
    · rw [if_pos c1] at hr9
      cases hr9
      exact ⟨15, 2, by rw [c1]; exact t_L_rename_1, h_L_rename_1, hk9⟩
    rw [if_neg c1] at hr9
    cases hr9
def F_L_setNumber (j : Nat) (S : pS) (a0 : Nat) (a1 : Int32) (a2 : Int32) (a3 : Int32) (a4 : Nat) : Option (Int32 × pS) := (F_X9_setNumber S a0 a1 a2 a3).bind fun q => Sum.elim (fun q => (oSJ q.2 a4 .long (0 : Int32) q.1.toInt64).bind fun S1 => some ((0 : Int32), S1)) (fun q => if q.1 = "java/util/NoSuchElementException" then some ((1 : Int32), (q.2.1 + j, gjunk q.2.2 q.2.1)) else if q.1 = "java/lang/IllegalArgumentException" then some ((2 : Int32), (q.2.1 + j, gjunk q.2.2 q.2.1)) else none) q
theorem t_L_setNumber_0 : gCatch mL_setNumber 7 "java/util/NoSuchElementException" 15 := by
  refine ⟨[], ⟨0, 12, 15, 21⟩, [⟨0, 12, 19, 13⟩], rfl, ?_, by decide +kernel, by decide, nL_21.1, by decide, rfl⟩
  exact fun z hz => absurd hz List.not_mem_nil
theorem h_L_setNumber_0 : gHand mL_setNumber 15 1 := ⟨rfl, _, 17, by decide, dL_setNumber_17, dL_setNumber_18, Or.inr ⟨_, dL_setNumber_15, by decide, rfl⟩⟩
theorem t_L_setNumber_1 : gCatch mL_setNumber 7 "java/lang/IllegalArgumentException" 19 := by
  refine ⟨[⟨0, 12, 15, 21⟩], ⟨0, 12, 19, 13⟩, [], rfl, ?_, by decide +kernel, by decide, nL_13.1, by decide, rfl⟩
  intro z hz
  cases List.mem_singleton.mp hz
  exact ⟨by decide, "java/util/NoSuchElementException", nL_21.1, by decide⟩
theorem h_L_setNumber_1 : gHand mL_setNumber 19 2 := ⟨rfl, _, 21, by decide, dL_setNumber_21, dL_setNumber_22, Or.inr ⟨_, dL_setNumber_19, by decide, rfl⟩⟩
set_option maxRecDepth 100000 in
set_option maxHeartbeats 4000000 in
theorem C_L_setNumber {X : pX} {Q : pO → Nat → pF → Prop} (S : pS) (a0 : Nat) (a1 : Int32) (a2 : Int32) (a3 : Int32) (a4 : Nat) (H : ∀ j, ∃ r, F_L_setNumber j S a0 a1 a2 a3 a4 = some r ∧ Q (.inl (some (.int r.1))) r.2.1 r.2.2) (hnx : ∀ (E : String) (n' : Nat) (h' : pF), ¬ Q (.inr E) n' h') : gCW X mL_setNumber [.ref a0, .int a1, .int a2, .int a3, .ref a4] S.1 S.2 Q 8 1602 := by
  refine gCW_of (by decide) (Nat.le_of_ble_eq_true rfl) hnx ?_
  change gW _ _ _ [some (.ref a0), some (.int a1), some (.int a2), some (.int a3), some (.ref a4), none] _ _ _ _ _ _
  obtain ⟨r, hr, hk⟩ := H 0
  unfold F_L_setNumber at hr
  replace hr := obind hr
  obtain ⟨q, e, hr⟩ := hr
  refine r_aload (pc := 0) dL_setNumber_0 rfl ?_
  refine r_iconst (pc := 2) (0 : Int32) dL_setNumber_2 (by decide) ?_
  refine r_aload_n (pc := 3) dL_setNumber_3 rfl ?_
  refine r_iload_n (pc := 4) dL_setNumber_4 rfl ?_
  refine r_iload_n (pc := 5) dL_setNumber_5 rfl ?_
  refine r_iload_n (pc := 6) dL_setNumber_6 rfl ?_
  rcases q with q | q
  · simp only [Sum.elim_inl] at hr
    refine q_callC (Q' := qR (some (.int q.1)) q.2) (pc := 7) mX9_setNumber 9 [.int a1, .int a2, .int a3] dL_setNumber_7 kL_47 fX9_setNumber iX9_setNumber ⟨by decide, by decide⟩ rfl rfl rfl (Nat.le_of_ble_eq_true rfl) (og e) (mc1 := 8) (ms1 := 1602) (mc2 := 0) (ms2 := 0) (by decide) (by decide) (C_X9_setNumber S a0 a1 a2 a3 (.inl q) e (qR_mk (some (.int q.1)) q.2)) (fun v n' h' hq => ?_) (fun E n' h' hq => by cases hq.1)
    obtain ⟨w1, w2, w3⟩ := hq
    cases w1; subst w2; subst w3
    refine r_i2l (pc := 10) dL_setNumber_10 ?_
    replace hr := obind hr
    obtain ⟨S1, es, hr⟩ := hr
    cases hr
    refine q_last (S := q.2) (pc := 11) dL_setNumber_11 es ?_
    refine r_goto (pc := 12) 23 dL_setNumber_12 (by decide) ?_
    refine r_iconst (pc := 23) (0 : Int32) dL_setNumber_23 (by decide) ?_
    exact r_ireturn (pc := 24) .int dL_setNumber_24 rfl rfl hk
  · refine q_callC (Q' := qX q.1 q.2) (pc := 7) mX9_setNumber 9 [.int a1, .int a2, .int a3] dL_setNumber_7 kL_47 fX9_setNumber iX9_setNumber ⟨by decide, by decide⟩ rfl rfl rfl (Nat.le_of_ble_eq_true rfl) (og e) (mc1 := 8) (ms1 := 1602) (mc2 := 0) (ms2 := 0) (by decide) (by decide) (C_X9_setNumber S a0 a1 a2 a3 (.inr q) e (qX_mk q.1 q.2)) (fun v n' h' hq => by cases hq.1) (fun E n' h' hq => ?_)
    obtain ⟨w1, w2, w3⟩ := hq
    cases w1; subst w3
    obtain ⟨r9, hr9, hk9⟩ := H (n' - q.2.1)
    unfold F_L_setNumber at hr9
    rw [e] at hr9
    simp only [Option.bind_some, Sum.elim_inr] at hr9
    have en : q.2.1 + (n' - q.2.1) = n' := by omega
    rw [en] at hr9
    by_cases c0 : q.1 = "java/util/NoSuchElementException"
    · rw [if_pos c0] at hr9
      cases hr9
      exact ⟨15, 1, by rw [c0]; exact t_L_setNumber_0, h_L_setNumber_0, hk9⟩
    rw [if_neg c0] at hr9
    by_cases c1 : q.1 = "java/lang/IllegalArgumentException"
    · rw [if_pos c1] at hr9
      cases hr9
      exact ⟨19, 2, by rw [c1]; exact t_L_setNumber_1, h_L_setNumber_1, hk9⟩
    rw [if_neg c1] at hr9
    cases hr9
def F_L_setFlag (j : Nat) (S : pS) (a0 : Nat) (a1 : Int32) (a2 : Int32) (a3 : Int32) (a4 : Nat) : Option (Int32 × pS) := (F_X9_setFlag S a0 a1 a2 a3).bind fun q => Sum.elim (fun q => if q.1 = 0 then ((oSJ q.2 a4 .long (0 : Int32) (0 : Int64)).bind fun S1 => some ((0 : Int32), S1)) else ((oSJ q.2 a4 .long (0 : Int32) (1 : Int64)).bind fun S1 => some ((0 : Int32), S1))) (fun q => if q.1 = "java/util/NoSuchElementException" then some ((1 : Int32), (q.2.1 + j, gjunk q.2.2 q.2.1)) else none) q
theorem t_L_setFlag_0 : gCatch mL_setFlag 7 "java/util/NoSuchElementException" 22 := by
  refine ⟨[], ⟨0, 19, 22, 21⟩, [], rfl, ?_, by decide +kernel, by decide, nL_21.1, by decide, rfl⟩
  exact fun z hz => absurd hz List.not_mem_nil
theorem h_L_setFlag_0 : gHand mL_setFlag 22 1 := ⟨rfl, _, 24, by decide, dL_setFlag_24, dL_setFlag_25, Or.inr ⟨_, dL_setFlag_22, by decide, rfl⟩⟩
set_option maxRecDepth 100000 in
set_option maxHeartbeats 4000000 in
theorem C_L_setFlag {X : pX} {Q : pO → Nat → pF → Prop} (S : pS) (a0 : Nat) (a1 : Int32) (a2 : Int32) (a3 : Int32) (a4 : Nat) (H : ∀ j, ∃ r, F_L_setFlag j S a0 a1 a2 a3 a4 = some r ∧ Q (.inl (some (.int r.1))) r.2.1 r.2.2) (hnx : ∀ (E : String) (n' : Nat) (h' : pF), ¬ Q (.inr E) n' h') : gCW X mL_setFlag [.ref a0, .int a1, .int a2, .int a3, .ref a4] S.1 S.2 Q 8 1602 := by
  refine gCW_of (by decide) (Nat.le_of_ble_eq_true rfl) hnx ?_
  change gW _ _ _ [some (.ref a0), some (.int a1), some (.int a2), some (.int a3), some (.ref a4), none] _ _ _ _ _ _
  obtain ⟨r, hr, hk⟩ := H 0
  unfold F_L_setFlag at hr
  replace hr := obind hr
  obtain ⟨q, e, hr⟩ := hr
  refine r_aload (pc := 0) dL_setFlag_0 rfl ?_
  refine r_iconst (pc := 2) (0 : Int32) dL_setFlag_2 (by decide) ?_
  refine r_aload_n (pc := 3) dL_setFlag_3 rfl ?_
  refine r_iload_n (pc := 4) dL_setFlag_4 rfl ?_
  refine r_iload_n (pc := 5) dL_setFlag_5 rfl ?_
  refine r_iload_n (pc := 6) dL_setFlag_6 rfl ?_
  rcases q with q | q
  · simp only [Sum.elim_inl] at hr
    refine q_callC (Q' := qR (some (.int q.1)) q.2) (pc := 7) mX9_setFlag 9 [.int a1, .int a2, .int a3] dL_setFlag_7 kL_51 fX9_setFlag iX9_setFlag ⟨by decide, by decide⟩ rfl rfl rfl (Nat.le_of_ble_eq_true rfl) (og e) (mc1 := 8) (ms1 := 1602) (mc2 := 0) (ms2 := 0) (by decide) (by decide) (C_X9_setFlag S a0 a1 a2 a3 (.inl q) e (qR_mk (some (.int q.1)) q.2)) (fun v n' h' hq => ?_) (fun E n' h' hq => by cases hq.1)
    obtain ⟨w1, w2, w3⟩ := hq
    cases w1; subst w2; subst w3
    refine r_if_eq (pc := 10) 17 dL_setFlag_10 (by decide) (fun hc => ?_) (fun hc => ?_)
    · rw [if_pos hc] at hr
      refine r_lconst (pc := 17) (0 : Int64) dL_setFlag_17 (by decide) ?_
      replace hr := obind hr
      obtain ⟨S1, es, hr⟩ := hr
      cases hr
      refine q_last (S := q.2) (pc := 18) dL_setFlag_18 es ?_
      refine r_goto (pc := 19) 26 dL_setFlag_19 (by decide) ?_
      refine r_iconst (pc := 26) (0 : Int32) dL_setFlag_26 (by decide) ?_
      exact r_ireturn (pc := 27) .int dL_setFlag_27 rfl rfl hk
    · rw [if_neg hc] at hr
      refine r_lconst (pc := 13) (1 : Int64) dL_setFlag_13 (by decide) ?_
      refine r_goto (pc := 14) 18 dL_setFlag_14 (by decide) ?_
      replace hr := obind hr
      obtain ⟨S1, es, hr⟩ := hr
      cases hr
      refine q_last (S := q.2) (pc := 18) dL_setFlag_18 es ?_
      refine r_goto (pc := 19) 26 dL_setFlag_19 (by decide) ?_
      refine r_iconst (pc := 26) (0 : Int32) dL_setFlag_26 (by decide) ?_
      exact r_ireturn (pc := 27) .int dL_setFlag_27 rfl rfl hk
  · refine q_callC (Q' := qX q.1 q.2) (pc := 7) mX9_setFlag 9 [.int a1, .int a2, .int a3] dL_setFlag_7 kL_51 fX9_setFlag iX9_setFlag ⟨by decide, by decide⟩ rfl rfl rfl (Nat.le_of_ble_eq_true rfl) (og e) (mc1 := 8) (ms1 := 1602) (mc2 := 0) (ms2 := 0) (by decide) (by decide) (C_X9_setFlag S a0 a1 a2 a3 (.inr q) e (qX_mk q.1 q.2)) (fun v n' h' hq => by cases hq.1) (fun E n' h' hq => ?_)
    obtain ⟨w1, w2, w3⟩ := hq
    cases w1; subst w3
    obtain ⟨r9, hr9, hk9⟩ := H (n' - q.2.1)
    unfold F_L_setFlag at hr9
    rw [e] at hr9
    simp only [Option.bind_some, Sum.elim_inr] at hr9
    have en : q.2.1 + (n' - q.2.1) = n' := by omega
    rw [en] at hr9
    by_cases c0 : q.1 = "java/util/NoSuchElementException"
    · rw [if_pos c0] at hr9
      cases hr9
      exact ⟨22, 1, by rw [c0]; exact t_L_setFlag_0, h_L_setFlag_0, hk9⟩
    rw [if_neg c0] at hr9
    cases hr9
def F_L_item (j : Nat) (S : pS) (a0 : Nat) (a1 : Int32) (a2 : Int32) (a3 : Nat) : Option (Int32 × pS) := (F_X9_item S a0 a1 a2).bind fun q => Sum.elim (fun q => (oSJ q.2 a3 .long (0 : Int32) q.1.toInt64).bind fun S1 => some ((0 : Int32), S1)) (fun q => if q.1 = "java/util/NoSuchElementException" then some ((1 : Int32), (q.2.1 + j, gjunk q.2.2 q.2.1)) else if q.1 = "java/lang/IllegalArgumentException" then some ((2 : Int32), (q.2.1 + j, gjunk q.2.2 q.2.1)) else none) q
theorem t_L_item_0 : gCatch mL_item 5 "java/util/NoSuchElementException" 13 := by
  refine ⟨[], ⟨0, 10, 13, 21⟩, [⟨0, 10, 17, 13⟩], rfl, ?_, by decide +kernel, by decide, nL_21.1, by decide, rfl⟩
  exact fun z hz => absurd hz List.not_mem_nil
theorem h_L_item_0 : gHand mL_item 13 1 := ⟨rfl, _, 15, by decide, dL_item_15, dL_item_16, Or.inr ⟨_, dL_item_13, by decide, rfl⟩⟩
theorem t_L_item_1 : gCatch mL_item 5 "java/lang/IllegalArgumentException" 17 := by
  refine ⟨[⟨0, 10, 13, 21⟩], ⟨0, 10, 17, 13⟩, [], rfl, ?_, by decide +kernel, by decide, nL_13.1, by decide, rfl⟩
  intro z hz
  cases List.mem_singleton.mp hz
  exact ⟨by decide, "java/util/NoSuchElementException", nL_21.1, by decide⟩
theorem h_L_item_1 : gHand mL_item 17 2 := ⟨rfl, _, 19, by decide, dL_item_19, dL_item_20, Or.inr ⟨_, dL_item_17, by decide, rfl⟩⟩
set_option maxRecDepth 100000 in
set_option maxHeartbeats 4000000 in
theorem C_L_item {X : pX} {Q : pO → Nat → pF → Prop} (S : pS) (a0 : Nat) (a1 : Int32) (a2 : Int32) (a3 : Nat) (H : ∀ j, ∃ r, F_L_item j S a0 a1 a2 a3 = some r ∧ Q (.inl (some (.int r.1))) r.2.1 r.2.2) (hnx : ∀ (E : String) (n' : Nat) (h' : pF), ¬ Q (.inr E) n' h') : gCW X mL_item [.ref a0, .int a1, .int a2, .ref a3] S.1 S.2 Q 2 12 := by
  refine gCW_of (by decide) (Nat.le_of_ble_eq_true rfl) hnx ?_
  change gW _ _ _ [some (.ref a0), some (.int a1), some (.int a2), some (.ref a3), none] _ _ _ _ _ _
  obtain ⟨r, hr, hk⟩ := H 0
  unfold F_L_item at hr
  replace hr := obind hr
  obtain ⟨q, e, hr⟩ := hr
  refine r_aload_n (pc := 0) dL_item_0 rfl ?_
  refine r_iconst (pc := 1) (0 : Int32) dL_item_1 (by decide) ?_
  refine r_aload_n (pc := 2) dL_item_2 rfl ?_
  refine r_iload_n (pc := 3) dL_item_3 rfl ?_
  refine r_iload_n (pc := 4) dL_item_4 rfl ?_
  rcases q with q | q
  · simp only [Sum.elim_inl] at hr
    refine q_callC (Q' := qR (some (.int q.1)) q.2) (pc := 5) mX9_item 9 [.int a1, .int a2] dL_item_5 kL_55 fX9_item iX9_item ⟨by decide, by decide⟩ rfl rfl rfl (Nat.le_of_ble_eq_true rfl) (og e) (mc1 := 2) (ms1 := 12) (mc2 := 0) (ms2 := 0) (by decide) (by decide) (C_X9_item S a0 a1 a2 (.inl q) e (qR_mk (some (.int q.1)) q.2)) (fun v n' h' hq => ?_) (fun E n' h' hq => by cases hq.1)
    obtain ⟨w1, w2, w3⟩ := hq
    cases w1; subst w2; subst w3
    refine r_i2l (pc := 8) dL_item_8 ?_
    replace hr := obind hr
    obtain ⟨S1, es, hr⟩ := hr
    cases hr
    refine q_last (S := q.2) (pc := 9) dL_item_9 es ?_
    refine r_goto (pc := 10) 21 dL_item_10 (by decide) ?_
    refine r_iconst (pc := 21) (0 : Int32) dL_item_21 (by decide) ?_
    exact r_ireturn (pc := 22) .int dL_item_22 rfl rfl hk
  · refine q_callC (Q' := qX q.1 q.2) (pc := 5) mX9_item 9 [.int a1, .int a2] dL_item_5 kL_55 fX9_item iX9_item ⟨by decide, by decide⟩ rfl rfl rfl (Nat.le_of_ble_eq_true rfl) (og e) (mc1 := 2) (ms1 := 12) (mc2 := 0) (ms2 := 0) (by decide) (by decide) (C_X9_item S a0 a1 a2 (.inr q) e (qX_mk q.1 q.2)) (fun v n' h' hq => by cases hq.1) (fun E n' h' hq => ?_)
    obtain ⟨w1, w2, w3⟩ := hq
    cases w1; subst w3
    obtain ⟨r9, hr9, hk9⟩ := H (n' - q.2.1)
    unfold F_L_item at hr9
    rw [e] at hr9
    simp only [Option.bind_some, Sum.elim_inr] at hr9
    have en : q.2.1 + (n' - q.2.1) = n' := by omega
    rw [en] at hr9
    by_cases c0 : q.1 = "java/util/NoSuchElementException"
    · rw [if_pos c0] at hr9
      cases hr9
      exact ⟨13, 1, by rw [c0]; exact t_L_item_0, h_L_item_0, hk9⟩
    rw [if_neg c0] at hr9
    by_cases c1 : q.1 = "java/lang/IllegalArgumentException"
    · rw [if_pos c1] at hr9
      cases hr9
      exact ⟨17, 2, by rw [c1]; exact t_L_item_1, h_L_item_1, hk9⟩
    rw [if_neg c1] at hr9
    cases hr9
def F_L_related (j : Nat) (S : pS) (a0 : Nat) (a1 : Int32) (a2 : Int32) (a3 : Int32) (a4 : Nat) : Option (Int32 × pS) := (F_X9_related S a0 a1 a2 a3).bind fun q => Sum.elim (fun q => (oSJ q.2 a4 .long (0 : Int32) q.1.toInt64).bind fun S1 => some ((0 : Int32), S1)) (fun q => if q.1 = "java/util/NoSuchElementException" then some ((1 : Int32), (q.2.1 + j, gjunk q.2.2 q.2.1)) else if q.1 = "java/lang/IndexOutOfBoundsException" then some ((2 : Int32), (q.2.1 + j, gjunk q.2.2 q.2.1)) else none) q
theorem t_L_related_0 : gCatch mL_related 7 "java/util/NoSuchElementException" 15 := by
  refine ⟨[], ⟨0, 12, 15, 21⟩, [⟨0, 12, 19, 23⟩], rfl, ?_, by decide +kernel, by decide, nL_21.1, by decide, rfl⟩
  exact fun z hz => absurd hz List.not_mem_nil
theorem h_L_related_0 : gHand mL_related 15 1 := ⟨rfl, _, 17, by decide, dL_related_17, dL_related_18, Or.inr ⟨_, dL_related_15, by decide, rfl⟩⟩
theorem t_L_related_1 : gCatch mL_related 7 "java/lang/IndexOutOfBoundsException" 19 := by
  refine ⟨[⟨0, 12, 15, 21⟩], ⟨0, 12, 19, 23⟩, [], rfl, ?_, by decide +kernel, by decide, nL_23.1, by decide, rfl⟩
  intro z hz
  cases List.mem_singleton.mp hz
  exact ⟨by decide, "java/util/NoSuchElementException", nL_21.1, by decide⟩
theorem h_L_related_1 : gHand mL_related 19 2 := ⟨rfl, _, 21, by decide, dL_related_21, dL_related_22, Or.inr ⟨_, dL_related_19, by decide, rfl⟩⟩
set_option maxRecDepth 100000 in
set_option maxHeartbeats 4000000 in
theorem C_L_related {X : pX} {Q : pO → Nat → pF → Prop} (S : pS) (a0 : Nat) (a1 : Int32) (a2 : Int32) (a3 : Int32) (a4 : Nat) (H : ∀ j, ∃ r, F_L_related j S a0 a1 a2 a3 a4 = some r ∧ Q (.inl (some (.int r.1))) r.2.1 r.2.2) (hnx : ∀ (E : String) (n' : Nat) (h' : pF), ¬ Q (.inr E) n' h') : gCW X mL_related [.ref a0, .int a1, .int a2, .int a3, .ref a4] S.1 S.2 Q 2 12 := by
  refine gCW_of (by decide) (Nat.le_of_ble_eq_true rfl) hnx ?_
  change gW _ _ _ [some (.ref a0), some (.int a1), some (.int a2), some (.int a3), some (.ref a4), none] _ _ _ _ _ _
  obtain ⟨r, hr, hk⟩ := H 0
  unfold F_L_related at hr
  replace hr := obind hr
  obtain ⟨q, e, hr⟩ := hr
  refine r_aload (pc := 0) dL_related_0 rfl ?_
  refine r_iconst (pc := 2) (0 : Int32) dL_related_2 (by decide) ?_
  refine r_aload_n (pc := 3) dL_related_3 rfl ?_
  refine r_iload_n (pc := 4) dL_related_4 rfl ?_
  refine r_iload_n (pc := 5) dL_related_5 rfl ?_
  refine r_iload_n (pc := 6) dL_related_6 rfl ?_
  rcases q with q | q
  · simp only [Sum.elim_inl] at hr
    refine q_callC (Q' := qR (some (.int q.1)) q.2) (pc := 7) mX9_related 9 [.int a1, .int a2, .int a3] dL_related_7 kL_58 fX9_related iX9_related ⟨by decide, by decide⟩ rfl rfl rfl (Nat.le_of_ble_eq_true rfl) (og e) (mc1 := 2) (ms1 := 12) (mc2 := 0) (ms2 := 0) (by decide) (by decide) (C_X9_related S a0 a1 a2 a3 (.inl q) e (qR_mk (some (.int q.1)) q.2)) (fun v n' h' hq => ?_) (fun E n' h' hq => by cases hq.1)
    obtain ⟨w1, w2, w3⟩ := hq
    cases w1; subst w2; subst w3
    refine r_i2l (pc := 10) dL_related_10 ?_
    replace hr := obind hr
    obtain ⟨S1, es, hr⟩ := hr
    cases hr
    refine q_last (S := q.2) (pc := 11) dL_related_11 es ?_
    refine r_goto (pc := 12) 23 dL_related_12 (by decide) ?_
    refine r_iconst (pc := 23) (0 : Int32) dL_related_23 (by decide) ?_
    exact r_ireturn (pc := 24) .int dL_related_24 rfl rfl hk
  · refine q_callC (Q' := qX q.1 q.2) (pc := 7) mX9_related 9 [.int a1, .int a2, .int a3] dL_related_7 kL_58 fX9_related iX9_related ⟨by decide, by decide⟩ rfl rfl rfl (Nat.le_of_ble_eq_true rfl) (og e) (mc1 := 2) (ms1 := 12) (mc2 := 0) (ms2 := 0) (by decide) (by decide) (C_X9_related S a0 a1 a2 a3 (.inr q) e (qX_mk q.1 q.2)) (fun v n' h' hq => by cases hq.1) (fun E n' h' hq => ?_)
    obtain ⟨w1, w2, w3⟩ := hq
    cases w1; subst w3
    obtain ⟨r9, hr9, hk9⟩ := H (n' - q.2.1)
    unfold F_L_related at hr9
    rw [e] at hr9
    simp only [Option.bind_some, Sum.elim_inr] at hr9
    have en : q.2.1 + (n' - q.2.1) = n' := by omega
    rw [en] at hr9
    by_cases c0 : q.1 = "java/util/NoSuchElementException"
    · rw [if_pos c0] at hr9
      cases hr9
      exact ⟨15, 1, by rw [c0]; exact t_L_related_0, h_L_related_0, hk9⟩
    rw [if_neg c0] at hr9
    by_cases c1 : q.1 = "java/lang/IndexOutOfBoundsException"
    · rw [if_pos c1] at hr9
      cases hr9
      exact ⟨19, 2, by rw [c1]; exact t_L_related_1, h_L_related_1, hk9⟩
    rw [if_neg c1] at hr9
    cases hr9
def F_L_letter (j : Nat) (S : pS) (a0 : Nat) (a1 : Int32) (a2 : Int32) (a3 : Nat) : Option (Int32 × pS) := (F_X9_letter S a0 a1 a2).bind fun q => Sum.elim (fun q => (oSJ q.2 a3 .long (0 : Int32) q.1.toInt64).bind fun S1 => some ((0 : Int32), S1)) (fun q => if q.1 = "java/util/NoSuchElementException" then some ((1 : Int32), (q.2.1 + j, gjunk q.2.2 q.2.1)) else if q.1 = "java/lang/IndexOutOfBoundsException" then some ((2 : Int32), (q.2.1 + j, gjunk q.2.2 q.2.1)) else none) q
theorem t_L_letter_0 : gCatch mL_letter 5 "java/util/NoSuchElementException" 13 := by
  refine ⟨[], ⟨0, 10, 13, 21⟩, [⟨0, 10, 17, 23⟩], rfl, ?_, by decide +kernel, by decide, nL_21.1, by decide, rfl⟩
  exact fun z hz => absurd hz List.not_mem_nil
theorem h_L_letter_0 : gHand mL_letter 13 1 := ⟨rfl, _, 15, by decide, dL_letter_15, dL_letter_16, Or.inr ⟨_, dL_letter_13, by decide, rfl⟩⟩
theorem t_L_letter_1 : gCatch mL_letter 5 "java/lang/IndexOutOfBoundsException" 17 := by
  refine ⟨[⟨0, 10, 13, 21⟩], ⟨0, 10, 17, 23⟩, [], rfl, ?_, by decide +kernel, by decide, nL_23.1, by decide, rfl⟩
  intro z hz
  cases List.mem_singleton.mp hz
  exact ⟨by decide, "java/util/NoSuchElementException", nL_21.1, by decide⟩
theorem h_L_letter_1 : gHand mL_letter 17 2 := ⟨rfl, _, 19, by decide, dL_letter_19, dL_letter_20, Or.inr ⟨_, dL_letter_17, by decide, rfl⟩⟩
set_option maxRecDepth 100000 in
set_option maxHeartbeats 4000000 in
theorem C_L_letter {X : pX} {Q : pO → Nat → pF → Prop} (S : pS) (a0 : Nat) (a1 : Int32) (a2 : Int32) (a3 : Nat) (H : ∀ j, ∃ r, F_L_letter j S a0 a1 a2 a3 = some r ∧ Q (.inl (some (.int r.1))) r.2.1 r.2.2) (hnx : ∀ (E : String) (n' : Nat) (h' : pF), ¬ Q (.inr E) n' h') : gCW X mL_letter [.ref a0, .int a1, .int a2, .ref a3] S.1 S.2 Q 2 12 := by
  refine gCW_of (by decide) (Nat.le_of_ble_eq_true rfl) hnx ?_
  change gW _ _ _ [some (.ref a0), some (.int a1), some (.int a2), some (.ref a3), none] _ _ _ _ _ _
  obtain ⟨r, hr, hk⟩ := H 0
  unfold F_L_letter at hr
  replace hr := obind hr
  obtain ⟨q, e, hr⟩ := hr
  refine r_aload_n (pc := 0) dL_letter_0 rfl ?_
  refine r_iconst (pc := 1) (0 : Int32) dL_letter_1 (by decide) ?_
  refine r_aload_n (pc := 2) dL_letter_2 rfl ?_
  refine r_iload_n (pc := 3) dL_letter_3 rfl ?_
  refine r_iload_n (pc := 4) dL_letter_4 rfl ?_
  rcases q with q | q
  · simp only [Sum.elim_inl] at hr
    refine q_callC (Q' := qR (some (.int q.1)) q.2) (pc := 5) mX9_letter 9 [.int a1, .int a2] dL_letter_5 kL_62 fX9_letter iX9_letter ⟨by decide, by decide⟩ rfl rfl rfl (Nat.le_of_ble_eq_true rfl) (og e) (mc1 := 2) (ms1 := 12) (mc2 := 0) (ms2 := 0) (by decide) (by decide) (C_X9_letter S a0 a1 a2 (.inl q) e (qR_mk (some (.int q.1)) q.2)) (fun v n' h' hq => ?_) (fun E n' h' hq => by cases hq.1)
    obtain ⟨w1, w2, w3⟩ := hq
    cases w1; subst w2; subst w3
    refine r_i2l (pc := 8) dL_letter_8 ?_
    replace hr := obind hr
    obtain ⟨S1, es, hr⟩ := hr
    cases hr
    refine q_last (S := q.2) (pc := 9) dL_letter_9 es ?_
    refine r_goto (pc := 10) 21 dL_letter_10 (by decide) ?_
    refine r_iconst (pc := 21) (0 : Int32) dL_letter_21 (by decide) ?_
    exact r_ireturn (pc := 22) .int dL_letter_22 rfl rfl hk
  · refine q_callC (Q' := qX q.1 q.2) (pc := 5) mX9_letter 9 [.int a1, .int a2] dL_letter_5 kL_62 fX9_letter iX9_letter ⟨by decide, by decide⟩ rfl rfl rfl (Nat.le_of_ble_eq_true rfl) (og e) (mc1 := 2) (ms1 := 12) (mc2 := 0) (ms2 := 0) (by decide) (by decide) (C_X9_letter S a0 a1 a2 (.inr q) e (qX_mk q.1 q.2)) (fun v n' h' hq => by cases hq.1) (fun E n' h' hq => ?_)
    obtain ⟨w1, w2, w3⟩ := hq
    cases w1; subst w3
    obtain ⟨r9, hr9, hk9⟩ := H (n' - q.2.1)
    unfold F_L_letter at hr9
    rw [e] at hr9
    simp only [Option.bind_some, Sum.elim_inr] at hr9
    have en : q.2.1 + (n' - q.2.1) = n' := by omega
    rw [en] at hr9
    by_cases c0 : q.1 = "java/util/NoSuchElementException"
    · rw [if_pos c0] at hr9
      cases hr9
      exact ⟨13, 1, by rw [c0]; exact t_L_letter_0, h_L_letter_0, hk9⟩
    rw [if_neg c0] at hr9
    by_cases c1 : q.1 = "java/lang/IndexOutOfBoundsException"
    · rw [if_pos c1] at hr9
      cases hr9
      exact ⟨17, 2, by rw [c1]; exact t_L_letter_1, h_L_letter_1, hk9⟩
    rw [if_neg c1] at hr9
    cases hr9
def F_L_isBelow (j : Nat) (S : pS) (a0 : Nat) (a1 : Int32) (a2 : Int32) (a3 : Nat) : Option (Int32 × pS) := (F_X9_isBelow S a0 a1 a2).bind fun q => Sum.elim (fun q => if q.1 = 0 then ((oSJ q.2 a3 .long (0 : Int32) (0 : Int64)).bind fun S1 => some ((0 : Int32), S1)) else ((oSJ q.2 a3 .long (0 : Int32) (1 : Int64)).bind fun S1 => some ((0 : Int32), S1))) (fun q => if q.1 = "java/util/NoSuchElementException" then some ((1 : Int32), (q.2.1 + j, gjunk q.2.2 q.2.1)) else none) q
theorem t_L_isBelow_0 : gCatch mL_isBelow 5 "java/util/NoSuchElementException" 20 := by
  refine ⟨[], ⟨0, 17, 20, 21⟩, [], rfl, ?_, by decide +kernel, by decide, nL_21.1, by decide, rfl⟩
  exact fun z hz => absurd hz List.not_mem_nil
theorem h_L_isBelow_0 : gHand mL_isBelow 20 1 := ⟨rfl, _, 22, by decide, dL_isBelow_22, dL_isBelow_23, Or.inr ⟨_, dL_isBelow_20, by decide, rfl⟩⟩
set_option maxRecDepth 100000 in
set_option maxHeartbeats 4000000 in
theorem C_L_isBelow {X : pX} {Q : pO → Nat → pF → Prop} (S : pS) (a0 : Nat) (a1 : Int32) (a2 : Int32) (a3 : Nat) (H : ∀ j, ∃ r, F_L_isBelow j S a0 a1 a2 a3 = some r ∧ Q (.inl (some (.int r.1))) r.2.1 r.2.2) (hnx : ∀ (E : String) (n' : Nat) (h' : pF), ¬ Q (.inr E) n' h') : gCW X mL_isBelow [.ref a0, .int a1, .int a2, .ref a3] S.1 S.2 Q 2 12 := by
  refine gCW_of (by decide) (Nat.le_of_ble_eq_true rfl) hnx ?_
  change gW _ _ _ [some (.ref a0), some (.int a1), some (.int a2), some (.ref a3), none] _ _ _ _ _ _
  obtain ⟨r, hr, hk⟩ := H 0
  unfold F_L_isBelow at hr
  replace hr := obind hr
  obtain ⟨q, e, hr⟩ := hr
  refine r_aload_n (pc := 0) dL_isBelow_0 rfl ?_
  refine r_iconst (pc := 1) (0 : Int32) dL_isBelow_1 (by decide) ?_
  refine r_aload_n (pc := 2) dL_isBelow_2 rfl ?_
  refine r_iload_n (pc := 3) dL_isBelow_3 rfl ?_
  refine r_iload_n (pc := 4) dL_isBelow_4 rfl ?_
  rcases q with q | q
  · simp only [Sum.elim_inl] at hr
    refine q_callC (Q' := qR (some (.int q.1)) q.2) (pc := 5) mX9_isBelow 9 [.int a1, .int a2] dL_isBelow_5 kL_66 fX9_isBelow iX9_isBelow ⟨by decide, by decide⟩ rfl rfl rfl (Nat.le_of_ble_eq_true rfl) (og e) (mc1 := 2) (ms1 := 12) (mc2 := 0) (ms2 := 0) (by decide) (by decide) (C_X9_isBelow S a0 a1 a2 (.inl q) e (qR_mk (some (.int q.1)) q.2)) (fun v n' h' hq => ?_) (fun E n' h' hq => by cases hq.1)
    obtain ⟨w1, w2, w3⟩ := hq
    cases w1; subst w2; subst w3
    refine r_if_eq (pc := 8) 15 dL_isBelow_8 (by decide) (fun hc => ?_) (fun hc => ?_)
    · rw [if_pos hc] at hr
      refine r_lconst (pc := 15) (0 : Int64) dL_isBelow_15 (by decide) ?_
      replace hr := obind hr
      obtain ⟨S1, es, hr⟩ := hr
      cases hr
      refine q_last (S := q.2) (pc := 16) dL_isBelow_16 es ?_
      refine r_goto (pc := 17) 24 dL_isBelow_17 (by decide) ?_
      refine r_iconst (pc := 24) (0 : Int32) dL_isBelow_24 (by decide) ?_
      exact r_ireturn (pc := 25) .int dL_isBelow_25 rfl rfl hk
    · rw [if_neg hc] at hr
      refine r_lconst (pc := 11) (1 : Int64) dL_isBelow_11 (by decide) ?_
      refine r_goto (pc := 12) 16 dL_isBelow_12 (by decide) ?_
      replace hr := obind hr
      obtain ⟨S1, es, hr⟩ := hr
      cases hr
      refine q_last (S := q.2) (pc := 16) dL_isBelow_16 es ?_
      refine r_goto (pc := 17) 24 dL_isBelow_17 (by decide) ?_
      refine r_iconst (pc := 24) (0 : Int32) dL_isBelow_24 (by decide) ?_
      exact r_ireturn (pc := 25) .int dL_isBelow_25 rfl rfl hk
  · refine q_callC (Q' := qX q.1 q.2) (pc := 5) mX9_isBelow 9 [.int a1, .int a2] dL_isBelow_5 kL_66 fX9_isBelow iX9_isBelow ⟨by decide, by decide⟩ rfl rfl rfl (Nat.le_of_ble_eq_true rfl) (og e) (mc1 := 2) (ms1 := 12) (mc2 := 0) (ms2 := 0) (by decide) (by decide) (C_X9_isBelow S a0 a1 a2 (.inr q) e (qX_mk q.1 q.2)) (fun v n' h' hq => by cases hq.1) (fun E n' h' hq => ?_)
    obtain ⟨w1, w2, w3⟩ := hq
    cases w1; subst w3
    obtain ⟨r9, hr9, hk9⟩ := H (n' - q.2.1)
    unfold F_L_isBelow at hr9
    rw [e] at hr9
    simp only [Option.bind_some, Sum.elim_inr] at hr9
    have en : q.2.1 + (n' - q.2.1) = n' := by omega
    rw [en] at hr9
    by_cases c0 : q.1 = "java/util/NoSuchElementException"
    · rw [if_pos c0] at hr9
      cases hr9
      exact ⟨20, 1, by rw [c0]; exact t_L_isBelow_0, h_L_isBelow_0, hk9⟩
    rw [if_neg c0] at hr9
    cases hr9
def F_L_outline (j : Nat) (S : pS) (a0 : Nat) (a1 : Int32) (a2 : Nat) : Option (Int32 × pS) := (F_X9_outline S a0 a1).bind fun q => Sum.elim (fun q => (oSJ q.2 a2 .long (0 : Int32) q.1.toInt64).bind fun S1 => some ((0 : Int32), S1)) (fun q => if q.1 = "java/lang/IllegalArgumentException" then some ((1 : Int32), (q.2.1 + j, gjunk q.2.2 q.2.1)) else none) q
theorem t_L_outline_0 : gCatch mL_outline 4 "java/lang/IllegalArgumentException" 12 := by
  refine ⟨[], ⟨0, 9, 12, 13⟩, [], rfl, ?_, by decide +kernel, by decide, nL_13.1, by decide, rfl⟩
  exact fun z hz => absurd hz List.not_mem_nil
theorem h_L_outline_0 : gHand mL_outline 12 1 := ⟨rfl, _, 13, by decide, dL_outline_13, dL_outline_14, Or.inl ⟨_, dL_outline_12, by decide, rfl⟩⟩
set_option maxRecDepth 100000 in
set_option maxHeartbeats 4000000 in
theorem C_L_outline {X : pX} {Q : pO → Nat → pF → Prop} (S : pS) (a0 : Nat) (a1 : Int32) (a2 : Nat) (H : ∀ j, ∃ r, F_L_outline j S a0 a1 a2 = some r ∧ Q (.inl (some (.int r.1))) r.2.1 r.2.2) (hnx : ∀ (E : String) (n' : Nat) (h' : pF), ¬ Q (.inr E) n' h') : gCW X mL_outline [.ref a0, .int a1, .ref a2] S.1 S.2 Q 1 6 := by
  refine gCW_of (by decide) (Nat.le_of_ble_eq_true rfl) hnx ?_
  change gW _ _ _ [some (.ref a0), some (.int a1), some (.ref a2), none] _ _ _ _ _ _
  obtain ⟨r, hr, hk⟩ := H 0
  unfold F_L_outline at hr
  replace hr := obind hr
  obtain ⟨q, e, hr⟩ := hr
  refine r_aload_n (pc := 0) dL_outline_0 rfl ?_
  refine r_iconst (pc := 1) (0 : Int32) dL_outline_1 (by decide) ?_
  refine r_aload_n (pc := 2) dL_outline_2 rfl ?_
  refine r_iload_n (pc := 3) dL_outline_3 rfl ?_
  rcases q with q | q
  · simp only [Sum.elim_inl] at hr
    refine q_callC (Q' := qR (some (.int q.1)) q.2) (pc := 4) mX9_outline 9 [.int a1] dL_outline_4 kL_70 fX9_outline iX9_outline ⟨by decide, by decide⟩ rfl rfl rfl (Nat.le_of_ble_eq_true rfl) (og e) (mc1 := 1) (ms1 := 6) (mc2 := 0) (ms2 := 0) (by decide) (by decide) (C_X9_outline S a0 a1 (.inl q) e (qR_mk (some (.int q.1)) q.2)) (fun v n' h' hq => ?_) (fun E n' h' hq => by cases hq.1)
    obtain ⟨w1, w2, w3⟩ := hq
    cases w1; subst w2; subst w3
    refine r_i2l (pc := 7) dL_outline_7 ?_
    replace hr := obind hr
    obtain ⟨S1, es, hr⟩ := hr
    cases hr
    refine q_last (S := q.2) (pc := 8) dL_outline_8 es ?_
    refine r_goto (pc := 9) 15 dL_outline_9 (by decide) ?_
    refine r_iconst (pc := 15) (0 : Int32) dL_outline_15 (by decide) ?_
    exact r_ireturn (pc := 16) .int dL_outline_16 rfl rfl hk
  · refine q_callC (Q' := qX q.1 q.2) (pc := 4) mX9_outline 9 [.int a1] dL_outline_4 kL_70 fX9_outline iX9_outline ⟨by decide, by decide⟩ rfl rfl rfl (Nat.le_of_ble_eq_true rfl) (og e) (mc1 := 1) (ms1 := 6) (mc2 := 0) (ms2 := 0) (by decide) (by decide) (C_X9_outline S a0 a1 (.inr q) e (qX_mk q.1 q.2)) (fun v n' h' hq => by cases hq.1) (fun E n' h' hq => ?_)
    obtain ⟨w1, w2, w3⟩ := hq
    cases w1; subst w3
    obtain ⟨r9, hr9, hk9⟩ := H (n' - q.2.1)
    unfold F_L_outline at hr9
    rw [e] at hr9
    simp only [Option.bind_some, Sum.elim_inr] at hr9
    have en : q.2.1 + (n' - q.2.1) = n' := by omega
    rw [en] at hr9
    by_cases c0 : q.1 = "java/lang/IllegalArgumentException"
    · rw [if_pos c0] at hr9
      cases hr9
      exact ⟨12, 1, by rw [c0]; exact t_L_outline_0, h_L_outline_0, hk9⟩
    rw [if_neg c0] at hr9
    cases hr9
def F_L_doneShare (j : Nat) (S : pS) (a0 : Nat) (a1 : Int32) (a2 : Nat) : Option (Int32 × pS) := (F_X9_doneShare S a0 a1).bind fun q => Sum.elim (fun q => (oF2d q.1).bind fun d => (oSD q.2 a2 .double (0 : Int32) d).bind fun S1 => some ((0 : Int32), S1)) (fun q => if q.1 = "java/util/NoSuchElementException" then some ((1 : Int32), (q.2.1 + j, gjunk q.2.2 q.2.1)) else none) q
theorem t_L_doneShare_0 : gCatch mL_doneShare 4 "java/util/NoSuchElementException" 12 := by
  refine ⟨[], ⟨0, 9, 12, 21⟩, [], rfl, ?_, by decide +kernel, by decide, nL_21.1, by decide, rfl⟩
  exact fun z hz => absurd hz List.not_mem_nil
theorem h_L_doneShare_0 : gHand mL_doneShare 12 1 := ⟨rfl, _, 13, by decide, dL_doneShare_13, dL_doneShare_14, Or.inl ⟨_, dL_doneShare_12, by decide, rfl⟩⟩
set_option maxRecDepth 100000 in
set_option maxHeartbeats 4000000 in
theorem C_L_doneShare {X : pX} {Q : pO → Nat → pF → Prop} (S : pS) (a0 : Nat) (a1 : Int32) (a2 : Nat) (H : ∀ j, ∃ r, F_L_doneShare j S a0 a1 a2 = some r ∧ Q (.inl (some (.int r.1))) r.2.1 r.2.2) (hnx : ∀ (E : String) (n' : Nat) (h' : pF), ¬ Q (.inr E) n' h') : gCW X mL_doneShare [.ref a0, .int a1, .ref a2] S.1 S.2 Q 1 6 := by
  refine gCW_of (by decide) (Nat.le_of_ble_eq_true rfl) hnx ?_
  change gW _ _ _ [some (.ref a0), some (.int a1), some (.ref a2), none] _ _ _ _ _ _
  obtain ⟨r, hr, hk⟩ := H 0
  unfold F_L_doneShare at hr
  replace hr := obind hr
  obtain ⟨q, e, hr⟩ := hr
  refine r_aload_n (pc := 0) dL_doneShare_0 rfl ?_
  refine r_iconst (pc := 1) (0 : Int32) dL_doneShare_1 (by decide) ?_
  refine r_aload_n (pc := 2) dL_doneShare_2 rfl ?_
  refine r_iload_n (pc := 3) dL_doneShare_3 rfl ?_
  rcases q with q | q
  · simp only [Sum.elim_inl] at hr
    refine q_callC (Q' := qR (some (.float q.1)) q.2) (pc := 4) mX9_doneShare 9 [.int a1] dL_doneShare_4 kL_73 fX9_doneShare iX9_doneShare ⟨by decide, by decide⟩ rfl rfl rfl (Nat.le_of_ble_eq_true rfl) (og e) (mc1 := 1) (ms1 := 6) (mc2 := 0) (ms2 := 0) (by decide) (by decide) (C_X9_doneShare S a0 a1 (.inl q) e (qR_mk (some (.float q.1)) q.2)) (fun v n' h' hq => ?_) (fun E n' h' hq => by cases hq.1)
    obtain ⟨w1, w2, w3⟩ := hq
    cases w1; subst w2; subst w3
    replace hr := obind hr
    obtain ⟨d, ed, hr⟩ := hr
    refine q_f2d (S := q.2) (pc := 7) dL_doneShare_7 ed ?_
    replace hr := obind hr
    obtain ⟨S1, es, hr⟩ := hr
    cases hr
    refine q_dast (S := q.2) (pc := 8) dL_doneShare_8 es ?_
    refine r_goto (pc := 9) 15 dL_doneShare_9 (by decide) ?_
    refine r_iconst (pc := 15) (0 : Int32) dL_doneShare_15 (by decide) ?_
    exact r_ireturn (pc := 16) .int dL_doneShare_16 rfl rfl hk
  · refine q_callC (Q' := qX q.1 q.2) (pc := 4) mX9_doneShare 9 [.int a1] dL_doneShare_4 kL_73 fX9_doneShare iX9_doneShare ⟨by decide, by decide⟩ rfl rfl rfl (Nat.le_of_ble_eq_true rfl) (og e) (mc1 := 1) (ms1 := 6) (mc2 := 0) (ms2 := 0) (by decide) (by decide) (C_X9_doneShare S a0 a1 (.inr q) e (qX_mk q.1 q.2)) (fun v n' h' hq => by cases hq.1) (fun E n' h' hq => ?_)
    obtain ⟨w1, w2, w3⟩ := hq
    cases w1; subst w3
    obtain ⟨r9, hr9, hk9⟩ := H (n' - q.2.1)
    unfold F_L_doneShare at hr9
    rw [e] at hr9
    simp only [Option.bind_some, Sum.elim_inr] at hr9
    have en : q.2.1 + (n' - q.2.1) = n' := by omega
    rw [en] at hr9
    by_cases c0 : q.1 = "java/util/NoSuchElementException"
    · rw [if_pos c0] at hr9
      cases hr9
      exact ⟨12, 1, by rw [c0]; exact t_L_doneShare_0, h_L_doneShare_0, hk9⟩
    rw [if_neg c0] at hr9
    cases hr9
def F_L_meanValue (j : Nat) (S : pS) (a0 : Nat) (a1 : Int32) (a2 : Nat) : Option (Int32 × pS) := (F_X9_meanValue S a0 a1).bind fun q => Sum.elim (fun q => (oSD q.2 a2 .double (0 : Int32) q.1).bind fun S1 => some ((0 : Int32), S1)) (fun q => if q.1 = "java/util/NoSuchElementException" then some ((1 : Int32), (q.2.1 + j, gjunk q.2.2 q.2.1)) else none) q
theorem t_L_meanValue_0 : gCatch mL_meanValue 4 "java/util/NoSuchElementException" 11 := by
  refine ⟨[], ⟨0, 8, 11, 21⟩, [], rfl, ?_, by decide +kernel, by decide, nL_21.1, by decide, rfl⟩
  exact fun z hz => absurd hz List.not_mem_nil
theorem h_L_meanValue_0 : gHand mL_meanValue 11 1 := ⟨rfl, _, 12, by decide, dL_meanValue_12, dL_meanValue_13, Or.inl ⟨_, dL_meanValue_11, by decide, rfl⟩⟩
set_option maxRecDepth 100000 in
set_option maxHeartbeats 4000000 in
theorem C_L_meanValue {X : pX} {Q : pO → Nat → pF → Prop} (S : pS) (a0 : Nat) (a1 : Int32) (a2 : Nat) (H : ∀ j, ∃ r, F_L_meanValue j S a0 a1 a2 = some r ∧ Q (.inl (some (.int r.1))) r.2.1 r.2.2) (hnx : ∀ (E : String) (n' : Nat) (h' : pF), ¬ Q (.inr E) n' h') : gCW X mL_meanValue [.ref a0, .int a1, .ref a2] S.1 S.2 Q 1 6 := by
  refine gCW_of (by decide) (Nat.le_of_ble_eq_true rfl) hnx ?_
  change gW _ _ _ [some (.ref a0), some (.int a1), some (.ref a2), none] _ _ _ _ _ _
  obtain ⟨r, hr, hk⟩ := H 0
  unfold F_L_meanValue at hr
  replace hr := obind hr
  obtain ⟨q, e, hr⟩ := hr
  refine r_aload_n (pc := 0) dL_meanValue_0 rfl ?_
  refine r_iconst (pc := 1) (0 : Int32) dL_meanValue_1 (by decide) ?_
  refine r_aload_n (pc := 2) dL_meanValue_2 rfl ?_
  refine r_iload_n (pc := 3) dL_meanValue_3 rfl ?_
  rcases q with q | q
  · simp only [Sum.elim_inl] at hr
    refine q_callC (Q' := qR (some (.double q.1)) q.2) (pc := 4) mX9_meanValue 9 [.int a1] dL_meanValue_4 kL_77 fX9_meanValue iX9_meanValue ⟨by decide, by decide⟩ rfl rfl rfl (Nat.le_of_ble_eq_true rfl) (og e) (mc1 := 1) (ms1 := 6) (mc2 := 0) (ms2 := 0) (by decide) (by decide) (C_X9_meanValue S a0 a1 (.inl q) e (qR_mk (some (.double q.1)) q.2)) (fun v n' h' hq => ?_) (fun E n' h' hq => by cases hq.1)
    obtain ⟨w1, w2, w3⟩ := hq
    cases w1; subst w2; subst w3
    replace hr := obind hr
    obtain ⟨S1, es, hr⟩ := hr
    cases hr
    refine q_dast (S := q.2) (pc := 7) dL_meanValue_7 es ?_
    refine r_goto (pc := 8) 14 dL_meanValue_8 (by decide) ?_
    refine r_iconst (pc := 14) (0 : Int32) dL_meanValue_14 (by decide) ?_
    exact r_ireturn (pc := 15) .int dL_meanValue_15 rfl rfl hk
  · refine q_callC (Q' := qX q.1 q.2) (pc := 4) mX9_meanValue 9 [.int a1] dL_meanValue_4 kL_77 fX9_meanValue iX9_meanValue ⟨by decide, by decide⟩ rfl rfl rfl (Nat.le_of_ble_eq_true rfl) (og e) (mc1 := 1) (ms1 := 6) (mc2 := 0) (ms2 := 0) (by decide) (by decide) (C_X9_meanValue S a0 a1 (.inr q) e (qX_mk q.1 q.2)) (fun v n' h' hq => by cases hq.1) (fun E n' h' hq => ?_)
    obtain ⟨w1, w2, w3⟩ := hq
    cases w1; subst w3
    obtain ⟨r9, hr9, hk9⟩ := H (n' - q.2.1)
    unfold F_L_meanValue at hr9
    rw [e] at hr9
    simp only [Option.bind_some, Sum.elim_inr] at hr9
    have en : q.2.1 + (n' - q.2.1) = n' := by omega
    rw [en] at hr9
    by_cases c0 : q.1 = "java/util/NoSuchElementException"
    · rw [if_pos c0] at hr9
      cases hr9
      exact ⟨11, 1, by rw [c0]; exact t_L_meanValue_0, h_L_meanValue_0, hk9⟩
    rw [if_neg c0] at hr9
    cases hr9
def F_L_hoist (j : Nat) (S : pS) (a0 : Nat) (a1 : Int32) (a2 : Nat) : Option (Int32 × pS) := (F_X9_hoist S a0 a1).bind fun q => Sum.elim (fun q => (oSJ q.2 a2 .long (0 : Int32) q.1.toInt64).bind fun S1 => some ((0 : Int32), S1)) (fun q => if q.1 = "java/util/NoSuchElementException" then some ((1 : Int32), (q.2.1 + j, gjunk q.2.2 q.2.1)) else if q.1 = "java/lang/IllegalStateException" then some ((2 : Int32), (q.2.1 + j, gjunk q.2.2 q.2.1)) else none) q
theorem t_L_hoist_0 : gCatch mL_hoist 4 "java/util/NoSuchElementException" 12 := by
  refine ⟨[], ⟨0, 9, 12, 21⟩, [⟨0, 9, 15, 15⟩], rfl, ?_, by decide +kernel, by decide, nL_21.1, by decide, rfl⟩
  exact fun z hz => absurd hz List.not_mem_nil
theorem h_L_hoist_0 : gHand mL_hoist 12 1 := ⟨rfl, _, 13, by decide, dL_hoist_13, dL_hoist_14, Or.inl ⟨_, dL_hoist_12, by decide, rfl⟩⟩
theorem t_L_hoist_1 : gCatch mL_hoist 4 "java/lang/IllegalStateException" 15 := by
  refine ⟨[⟨0, 9, 12, 21⟩], ⟨0, 9, 15, 15⟩, [], rfl, ?_, by decide +kernel, by decide, nL_15.1, by decide, rfl⟩
  intro z hz
  cases List.mem_singleton.mp hz
  exact ⟨by decide, "java/util/NoSuchElementException", nL_21.1, by decide⟩
theorem h_L_hoist_1 : gHand mL_hoist 15 2 := ⟨rfl, _, 16, by decide, dL_hoist_16, dL_hoist_17, Or.inl ⟨_, dL_hoist_15, by decide, rfl⟩⟩
set_option maxRecDepth 100000 in
set_option maxHeartbeats 4000000 in
theorem C_L_hoist {X : pX} {Q : pO → Nat → pF → Prop} (S : pS) (a0 : Nat) (a1 : Int32) (a2 : Nat) (H : ∀ j, ∃ r, F_L_hoist j S a0 a1 a2 = some r ∧ Q (.inl (some (.int r.1))) r.2.1 r.2.2) (hnx : ∀ (E : String) (n' : Nat) (h' : pF), ¬ Q (.inr E) n' h') : gCW X mL_hoist [.ref a0, .int a1, .ref a2] S.1 S.2 Q 2 12 := by
  refine gCW_of (by decide) (Nat.le_of_ble_eq_true rfl) hnx ?_
  change gW _ _ _ [some (.ref a0), some (.int a1), some (.ref a2), none] _ _ _ _ _ _
  obtain ⟨r, hr, hk⟩ := H 0
  unfold F_L_hoist at hr
  replace hr := obind hr
  obtain ⟨q, e, hr⟩ := hr
  refine r_aload_n (pc := 0) dL_hoist_0 rfl ?_
  refine r_iconst (pc := 1) (0 : Int32) dL_hoist_1 (by decide) ?_
  refine r_aload_n (pc := 2) dL_hoist_2 rfl ?_
  refine r_iload_n (pc := 3) dL_hoist_3 rfl ?_
  rcases q with q | q
  · simp only [Sum.elim_inl] at hr
    refine q_callC (Q' := qR (some (.int q.1)) q.2) (pc := 4) mX9_hoist 9 [.int a1] dL_hoist_4 kL_81 fX9_hoist iX9_hoist ⟨by decide, by decide⟩ rfl rfl rfl (Nat.le_of_ble_eq_true rfl) (og e) (mc1 := 2) (ms1 := 12) (mc2 := 0) (ms2 := 0) (by decide) (by decide) (C_X9_hoist S a0 a1 (.inl q) e (qR_mk (some (.int q.1)) q.2)) (fun v n' h' hq => ?_) (fun E n' h' hq => by cases hq.1)
    obtain ⟨w1, w2, w3⟩ := hq
    cases w1; subst w2; subst w3
    refine r_i2l (pc := 7) dL_hoist_7 ?_
    replace hr := obind hr
    obtain ⟨S1, es, hr⟩ := hr
    cases hr
    refine q_last (S := q.2) (pc := 8) dL_hoist_8 es ?_
    refine r_goto (pc := 9) 18 dL_hoist_9 (by decide) ?_
    refine r_iconst (pc := 18) (0 : Int32) dL_hoist_18 (by decide) ?_
    exact r_ireturn (pc := 19) .int dL_hoist_19 rfl rfl hk
  · refine q_callC (Q' := qX q.1 q.2) (pc := 4) mX9_hoist 9 [.int a1] dL_hoist_4 kL_81 fX9_hoist iX9_hoist ⟨by decide, by decide⟩ rfl rfl rfl (Nat.le_of_ble_eq_true rfl) (og e) (mc1 := 2) (ms1 := 12) (mc2 := 0) (ms2 := 0) (by decide) (by decide) (C_X9_hoist S a0 a1 (.inr q) e (qX_mk q.1 q.2)) (fun v n' h' hq => by cases hq.1) (fun E n' h' hq => ?_)
    obtain ⟨w1, w2, w3⟩ := hq
    cases w1; subst w3
    obtain ⟨r9, hr9, hk9⟩ := H (n' - q.2.1)
    unfold F_L_hoist at hr9
    rw [e] at hr9
    simp only [Option.bind_some, Sum.elim_inr] at hr9
    have en : q.2.1 + (n' - q.2.1) = n' := by omega
    rw [en] at hr9
    by_cases c0 : q.1 = "java/util/NoSuchElementException"
    · rw [if_pos c0] at hr9
      cases hr9
      exact ⟨12, 1, by rw [c0]; exact t_L_hoist_0, h_L_hoist_0, hk9⟩
    rw [if_neg c0] at hr9
    by_cases c1 : q.1 = "java/lang/IllegalStateException"
    · rw [if_pos c1] at hr9
      cases hr9
      exact ⟨15, 2, by rw [c1]; exact t_L_hoist_1, h_L_hoist_1, hk9⟩
    rw [if_neg c1] at hr9
    cases hr9
def F_L_unhoist (j : Nat) (S : pS) (a0 : Nat) (a1 : Nat) : Option (Int32 × pS) := (F_X9_unhoist S a0).bind fun q => Sum.elim (fun q => (oSJ q.2 a1 .long (0 : Int32) q.1.toInt64).bind fun S1 => some ((0 : Int32), S1)) (fun q => if q.1 = "java/lang/IllegalStateException" then some ((1 : Int32), (q.2.1 + j, gjunk q.2.2 q.2.1)) else none) q
theorem t_L_unhoist_0 : gCatch mL_unhoist 3 "java/lang/IllegalStateException" 11 := by
  refine ⟨[], ⟨0, 8, 11, 15⟩, [], rfl, ?_, by decide +kernel, by decide, nL_15.1, by decide, rfl⟩
  exact fun z hz => absurd hz List.not_mem_nil
theorem h_L_unhoist_0 : gHand mL_unhoist 11 1 := ⟨rfl, _, 12, by decide, dL_unhoist_12, dL_unhoist_13, Or.inl ⟨_, dL_unhoist_11, by decide, rfl⟩⟩
set_option maxRecDepth 100000 in
set_option maxHeartbeats 4000000 in
theorem C_L_unhoist {X : pX} {Q : pO → Nat → pF → Prop} (S : pS) (a0 : Nat) (a1 : Nat) (H : ∀ j, ∃ r, F_L_unhoist j S a0 a1 = some r ∧ Q (.inl (some (.int r.1))) r.2.1 r.2.2) (hnx : ∀ (E : String) (n' : Nat) (h' : pF), ¬ Q (.inr E) n' h') : gCW X mL_unhoist [.ref a0, .ref a1] S.1 S.2 Q 1 6 := by
  refine gCW_of (by decide) (Nat.le_of_ble_eq_true rfl) hnx ?_
  change gW _ _ _ [some (.ref a0), some (.ref a1), none] _ _ _ _ _ _
  obtain ⟨r, hr, hk⟩ := H 0
  unfold F_L_unhoist at hr
  replace hr := obind hr
  obtain ⟨q, e, hr⟩ := hr
  refine r_aload_n (pc := 0) dL_unhoist_0 rfl ?_
  refine r_iconst (pc := 1) (0 : Int32) dL_unhoist_1 (by decide) ?_
  refine r_aload_n (pc := 2) dL_unhoist_2 rfl ?_
  rcases q with q | q
  · simp only [Sum.elim_inl] at hr
    refine q_callC (Q' := qR (some (.int q.1)) q.2) (pc := 3) mX9_unhoist 9 [] dL_unhoist_3 kL_84 fX9_unhoist iX9_unhoist ⟨by decide, by decide⟩ rfl rfl rfl (Nat.le_of_ble_eq_true rfl) (og e) (mc1 := 1) (ms1 := 6) (mc2 := 0) (ms2 := 0) (by decide) (by decide) (C_X9_unhoist S a0 (.inl q) e (qR_mk (some (.int q.1)) q.2)) (fun v n' h' hq => ?_) (fun E n' h' hq => by cases hq.1)
    obtain ⟨w1, w2, w3⟩ := hq
    cases w1; subst w2; subst w3
    refine r_i2l (pc := 6) dL_unhoist_6 ?_
    replace hr := obind hr
    obtain ⟨S1, es, hr⟩ := hr
    cases hr
    refine q_last (S := q.2) (pc := 7) dL_unhoist_7 es ?_
    refine r_goto (pc := 8) 14 dL_unhoist_8 (by decide) ?_
    refine r_iconst (pc := 14) (0 : Int32) dL_unhoist_14 (by decide) ?_
    exact r_ireturn (pc := 15) .int dL_unhoist_15 rfl rfl hk
  · refine q_callC (Q' := qX q.1 q.2) (pc := 3) mX9_unhoist 9 [] dL_unhoist_3 kL_84 fX9_unhoist iX9_unhoist ⟨by decide, by decide⟩ rfl rfl rfl (Nat.le_of_ble_eq_true rfl) (og e) (mc1 := 1) (ms1 := 6) (mc2 := 0) (ms2 := 0) (by decide) (by decide) (C_X9_unhoist S a0 (.inr q) e (qX_mk q.1 q.2)) (fun v n' h' hq => by cases hq.1) (fun E n' h' hq => ?_)
    obtain ⟨w1, w2, w3⟩ := hq
    cases w1; subst w3
    obtain ⟨r9, hr9, hk9⟩ := H (n' - q.2.1)
    unfold F_L_unhoist at hr9
    rw [e] at hr9
    simp only [Option.bind_some, Sum.elim_inr] at hr9
    have en : q.2.1 + (n' - q.2.1) = n' := by omega
    rw [en] at hr9
    by_cases c0 : q.1 = "java/lang/IllegalStateException"
    · rw [if_pos c0] at hr9
      cases hr9
      exact ⟨11, 1, by rw [c0]; exact t_L_unhoist_0, h_L_unhoist_0, hk9⟩
    rw [if_neg c0] at hr9
    cases hr9
def F_L_filter (j : Nat) (S : pS) (a0 : Nat) (a1 : Nat) : Option (Int32 × pS) := (F_X9_filter S a0).bind fun q => Sum.elim (fun q => (oSJ q.2 a1 .long (0 : Int32) q.1.toInt64).bind fun S1 => some ((0 : Int32), S1)) (fun q => if q.1 = "java/lang/IllegalArgumentException" then some ((1 : Int32), (q.2.1 + j, gjunk q.2.2 q.2.1)) else none) q
theorem t_L_filter_0 : gCatch mL_filter 3 "java/lang/IllegalArgumentException" 11 := by
  refine ⟨[], ⟨0, 8, 11, 13⟩, [], rfl, ?_, by decide +kernel, by decide, nL_13.1, by decide, rfl⟩
  exact fun z hz => absurd hz List.not_mem_nil
theorem h_L_filter_0 : gHand mL_filter 11 1 := ⟨rfl, _, 12, by decide, dL_filter_12, dL_filter_13, Or.inl ⟨_, dL_filter_11, by decide, rfl⟩⟩
set_option maxRecDepth 100000 in
set_option maxHeartbeats 4000000 in
theorem C_L_filter {X : pX} {Q : pO → Nat → pF → Prop} (S : pS) (a0 : Nat) (a1 : Nat) (H : ∀ j, ∃ r, F_L_filter j S a0 a1 = some r ∧ Q (.inl (some (.int r.1))) r.2.1 r.2.2) (hnx : ∀ (E : String) (n' : Nat) (h' : pF), ¬ Q (.inr E) n' h') : gCW X mL_filter [.ref a0, .ref a1] S.1 S.2 Q 1 6 := by
  refine gCW_of (by decide) (Nat.le_of_ble_eq_true rfl) hnx ?_
  change gW _ _ _ [some (.ref a0), some (.ref a1), none] _ _ _ _ _ _
  obtain ⟨r, hr, hk⟩ := H 0
  unfold F_L_filter at hr
  replace hr := obind hr
  obtain ⟨q, e, hr⟩ := hr
  refine r_aload_n (pc := 0) dL_filter_0 rfl ?_
  refine r_iconst (pc := 1) (0 : Int32) dL_filter_1 (by decide) ?_
  refine r_aload_n (pc := 2) dL_filter_2 rfl ?_
  rcases q with q | q
  · simp only [Sum.elim_inl] at hr
    refine q_callC (Q' := qR (some (.int q.1)) q.2) (pc := 3) mX9_filter 9 [] dL_filter_3 kL_88 fX9_filter iX9_filter ⟨by decide, by decide⟩ rfl rfl rfl (Nat.le_of_ble_eq_true rfl) (og e) (mc1 := 1) (ms1 := 6) (mc2 := 0) (ms2 := 0) (by decide) (by decide) (C_X9_filter S a0 (.inl q) e (qR_mk (some (.int q.1)) q.2)) (fun v n' h' hq => ?_) (fun E n' h' hq => by cases hq.1)
    obtain ⟨w1, w2, w3⟩ := hq
    cases w1; subst w2; subst w3
    refine r_i2l (pc := 6) dL_filter_6 ?_
    replace hr := obind hr
    obtain ⟨S1, es, hr⟩ := hr
    cases hr
    refine q_last (S := q.2) (pc := 7) dL_filter_7 es ?_
    refine r_goto (pc := 8) 14 dL_filter_8 (by decide) ?_
    refine r_iconst (pc := 14) (0 : Int32) dL_filter_14 (by decide) ?_
    exact r_ireturn (pc := 15) .int dL_filter_15 rfl rfl hk
  · refine q_callC (Q' := qX q.1 q.2) (pc := 3) mX9_filter 9 [] dL_filter_3 kL_88 fX9_filter iX9_filter ⟨by decide, by decide⟩ rfl rfl rfl (Nat.le_of_ble_eq_true rfl) (og e) (mc1 := 1) (ms1 := 6) (mc2 := 0) (ms2 := 0) (by decide) (by decide) (C_X9_filter S a0 (.inr q) e (qX_mk q.1 q.2)) (fun v n' h' hq => by cases hq.1) (fun E n' h' hq => ?_)
    obtain ⟨w1, w2, w3⟩ := hq
    cases w1; subst w3
    obtain ⟨r9, hr9, hk9⟩ := H (n' - q.2.1)
    unfold F_L_filter at hr9
    rw [e] at hr9
    simp only [Option.bind_some, Sum.elim_inr] at hr9
    have en : q.2.1 + (n' - q.2.1) = n' := by omega
    rw [en] at hr9
    by_cases c0 : q.1 = "java/lang/IllegalArgumentException"
    · rw [if_pos c0] at hr9
      cases hr9
      exact ⟨11, 1, by rw [c0]; exact t_L_filter_0, h_L_filter_0, hk9⟩
    rw [if_neg c0] at hr9
    cases hr9
def F_L_line (j : Nat) (S : pS) (a0 : Nat) (a1 : Int32) (a2 : Int32) (a3 : Nat) : Option (Int32 × pS) := (F_X9_line S a0 a1 a2).bind fun q => Sum.elim (fun q => (oSJ q.2 a3 .long (0 : Int32) q.1.toInt64).bind fun S1 => some ((0 : Int32), S1)) (fun q => if q.1 = "java/util/NoSuchElementException" then some ((1 : Int32), (q.2.1 + j, gjunk q.2.2 q.2.1)) else if q.1 = "java/lang/IllegalArgumentException" then some ((2 : Int32), (q.2.1 + j, gjunk q.2.2 q.2.1)) else none) q
theorem t_L_line_0 : gCatch mL_line 5 "java/util/NoSuchElementException" 13 := by
  refine ⟨[], ⟨0, 10, 13, 21⟩, [⟨0, 10, 17, 13⟩], rfl, ?_, by decide +kernel, by decide, nL_21.1, by decide, rfl⟩
  exact fun z hz => absurd hz List.not_mem_nil
theorem h_L_line_0 : gHand mL_line 13 1 := ⟨rfl, _, 15, by decide, dL_line_15, dL_line_16, Or.inr ⟨_, dL_line_13, by decide, rfl⟩⟩
theorem t_L_line_1 : gCatch mL_line 5 "java/lang/IllegalArgumentException" 17 := by
  refine ⟨[⟨0, 10, 13, 21⟩], ⟨0, 10, 17, 13⟩, [], rfl, ?_, by decide +kernel, by decide, nL_13.1, by decide, rfl⟩
  intro z hz
  cases List.mem_singleton.mp hz
  exact ⟨by decide, "java/util/NoSuchElementException", nL_21.1, by decide⟩
theorem h_L_line_1 : gHand mL_line 17 2 := ⟨rfl, _, 19, by decide, dL_line_19, dL_line_20, Or.inr ⟨_, dL_line_17, by decide, rfl⟩⟩
set_option maxRecDepth 100000 in
set_option maxHeartbeats 4000000 in
theorem C_L_line {X : pX} {Q : pO → Nat → pF → Prop} (S : pS) (a0 : Nat) (a1 : Int32) (a2 : Int32) (a3 : Nat) (H : ∀ j, ∃ r, F_L_line j S a0 a1 a2 a3 = some r ∧ Q (.inl (some (.int r.1))) r.2.1 r.2.2) (hnx : ∀ (E : String) (n' : Nat) (h' : pF), ¬ Q (.inr E) n' h') : gCW X mL_line [.ref a0, .int a1, .int a2, .ref a3] S.1 S.2 Q 2 12 := by
  refine gCW_of (by decide) (Nat.le_of_ble_eq_true rfl) hnx ?_
  change gW _ _ _ [some (.ref a0), some (.int a1), some (.int a2), some (.ref a3), none] _ _ _ _ _ _
  obtain ⟨r, hr, hk⟩ := H 0
  unfold F_L_line at hr
  replace hr := obind hr
  obtain ⟨q, e, hr⟩ := hr
  refine r_aload_n (pc := 0) dL_line_0 rfl ?_
  refine r_iconst (pc := 1) (0 : Int32) dL_line_1 (by decide) ?_
  refine r_aload_n (pc := 2) dL_line_2 rfl ?_
  refine r_iload_n (pc := 3) dL_line_3 rfl ?_
  refine r_iload_n (pc := 4) dL_line_4 rfl ?_
  rcases q with q | q
  · simp only [Sum.elim_inl] at hr
    refine q_callC (Q' := qR (some (.int q.1)) q.2) (pc := 5) mX9_line 9 [.int a1, .int a2] dL_line_5 kL_91 fX9_line iX9_line ⟨by decide, by decide⟩ rfl rfl rfl (Nat.le_of_ble_eq_true rfl) (og e) (mc1 := 2) (ms1 := 12) (mc2 := 0) (ms2 := 0) (by decide) (by decide) (C_X9_line S a0 a1 a2 (.inl q) e (qR_mk (some (.int q.1)) q.2)) (fun v n' h' hq => ?_) (fun E n' h' hq => by cases hq.1)
    obtain ⟨w1, w2, w3⟩ := hq
    cases w1; subst w2; subst w3
    refine r_i2l (pc := 8) dL_line_8 ?_
    replace hr := obind hr
    obtain ⟨S1, es, hr⟩ := hr
    cases hr
    refine q_last (S := q.2) (pc := 9) dL_line_9 es ?_
    refine r_goto (pc := 10) 21 dL_line_10 (by decide) ?_
    refine r_iconst (pc := 21) (0 : Int32) dL_line_21 (by decide) ?_
    exact r_ireturn (pc := 22) .int dL_line_22 rfl rfl hk
  · refine q_callC (Q' := qX q.1 q.2) (pc := 5) mX9_line 9 [.int a1, .int a2] dL_line_5 kL_91 fX9_line iX9_line ⟨by decide, by decide⟩ rfl rfl rfl (Nat.le_of_ble_eq_true rfl) (og e) (mc1 := 2) (ms1 := 12) (mc2 := 0) (ms2 := 0) (by decide) (by decide) (C_X9_line S a0 a1 a2 (.inr q) e (qX_mk q.1 q.2)) (fun v n' h' hq => by cases hq.1) (fun E n' h' hq => ?_)
    obtain ⟨w1, w2, w3⟩ := hq
    cases w1; subst w3
    obtain ⟨r9, hr9, hk9⟩ := H (n' - q.2.1)
    unfold F_L_line at hr9
    rw [e] at hr9
    simp only [Option.bind_some, Sum.elim_inr] at hr9
    have en : q.2.1 + (n' - q.2.1) = n' := by omega
    rw [en] at hr9
    by_cases c0 : q.1 = "java/util/NoSuchElementException"
    · rw [if_pos c0] at hr9
      cases hr9
      exact ⟨13, 1, by rw [c0]; exact t_L_line_0, h_L_line_0, hk9⟩
    rw [if_neg c0] at hr9
    by_cases c1 : q.1 = "java/lang/IllegalArgumentException"
    · rw [if_pos c1] at hr9
      cases hr9
      exact ⟨17, 2, by rw [c1]; exact t_L_line_1, h_L_line_1, hk9⟩
    rw [if_neg c1] at hr9
    cases hr9
def F_L_path (j : Nat) (S : pS) (a0 : Nat) (a1 : Int32) (a2 : Int32) (a3 : Nat) : Option (Int32 × pS) := (F_X9_path S a0 a1 a2).bind fun q => Sum.elim (fun q => (oSJ q.2 a3 .long (0 : Int32) q.1.toInt64).bind fun S1 => some ((0 : Int32), S1)) (fun q => if q.1 = "java/util/NoSuchElementException" then some ((1 : Int32), (q.2.1 + j, gjunk q.2.2 q.2.1)) else if q.1 = "java/lang/IndexOutOfBoundsException" then some ((2 : Int32), (q.2.1 + j, gjunk q.2.2 q.2.1)) else none) q
theorem t_L_path_0 : gCatch mL_path 5 "java/util/NoSuchElementException" 13 := by
  refine ⟨[], ⟨0, 10, 13, 21⟩, [⟨0, 10, 17, 23⟩], rfl, ?_, by decide +kernel, by decide, nL_21.1, by decide, rfl⟩
  exact fun z hz => absurd hz List.not_mem_nil
theorem h_L_path_0 : gHand mL_path 13 1 := ⟨rfl, _, 15, by decide, dL_path_15, dL_path_16, Or.inr ⟨_, dL_path_13, by decide, rfl⟩⟩
theorem t_L_path_1 : gCatch mL_path 5 "java/lang/IndexOutOfBoundsException" 17 := by
  refine ⟨[⟨0, 10, 13, 21⟩], ⟨0, 10, 17, 23⟩, [], rfl, ?_, by decide +kernel, by decide, nL_23.1, by decide, rfl⟩
  intro z hz
  cases List.mem_singleton.mp hz
  exact ⟨by decide, "java/util/NoSuchElementException", nL_21.1, by decide⟩
theorem h_L_path_1 : gHand mL_path 17 2 := ⟨rfl, _, 19, by decide, dL_path_19, dL_path_20, Or.inr ⟨_, dL_path_17, by decide, rfl⟩⟩
set_option maxRecDepth 100000 in
set_option maxHeartbeats 4000000 in
theorem C_L_path {X : pX} {Q : pO → Nat → pF → Prop} (S : pS) (a0 : Nat) (a1 : Int32) (a2 : Int32) (a3 : Nat) (H : ∀ j, ∃ r, F_L_path j S a0 a1 a2 a3 = some r ∧ Q (.inl (some (.int r.1))) r.2.1 r.2.2) (hnx : ∀ (E : String) (n' : Nat) (h' : pF), ¬ Q (.inr E) n' h') : gCW X mL_path [.ref a0, .int a1, .int a2, .ref a3] S.1 S.2 Q 2 12 := by
  refine gCW_of (by decide) (Nat.le_of_ble_eq_true rfl) hnx ?_
  change gW _ _ _ [some (.ref a0), some (.int a1), some (.int a2), some (.ref a3), none] _ _ _ _ _ _
  obtain ⟨r, hr, hk⟩ := H 0
  unfold F_L_path at hr
  replace hr := obind hr
  obtain ⟨q, e, hr⟩ := hr
  refine r_aload_n (pc := 0) dL_path_0 rfl ?_
  refine r_iconst (pc := 1) (0 : Int32) dL_path_1 (by decide) ?_
  refine r_aload_n (pc := 2) dL_path_2 rfl ?_
  refine r_iload_n (pc := 3) dL_path_3 rfl ?_
  refine r_iload_n (pc := 4) dL_path_4 rfl ?_
  rcases q with q | q
  · simp only [Sum.elim_inl] at hr
    refine q_callC (Q' := qR (some (.int q.1)) q.2) (pc := 5) mX9_path 9 [.int a1, .int a2] dL_path_5 kL_94 fX9_path iX9_path ⟨by decide, by decide⟩ rfl rfl rfl (Nat.le_of_ble_eq_true rfl) (og e) (mc1 := 2) (ms1 := 12) (mc2 := 0) (ms2 := 0) (by decide) (by decide) (C_X9_path S a0 a1 a2 (.inl q) e (qR_mk (some (.int q.1)) q.2)) (fun v n' h' hq => ?_) (fun E n' h' hq => by cases hq.1)
    obtain ⟨w1, w2, w3⟩ := hq
    cases w1; subst w2; subst w3
    refine r_i2l (pc := 8) dL_path_8 ?_
    replace hr := obind hr
    obtain ⟨S1, es, hr⟩ := hr
    cases hr
    refine q_last (S := q.2) (pc := 9) dL_path_9 es ?_
    refine r_goto (pc := 10) 21 dL_path_10 (by decide) ?_
    refine r_iconst (pc := 21) (0 : Int32) dL_path_21 (by decide) ?_
    exact r_ireturn (pc := 22) .int dL_path_22 rfl rfl hk
  · refine q_callC (Q' := qX q.1 q.2) (pc := 5) mX9_path 9 [.int a1, .int a2] dL_path_5 kL_94 fX9_path iX9_path ⟨by decide, by decide⟩ rfl rfl rfl (Nat.le_of_ble_eq_true rfl) (og e) (mc1 := 2) (ms1 := 12) (mc2 := 0) (ms2 := 0) (by decide) (by decide) (C_X9_path S a0 a1 a2 (.inr q) e (qX_mk q.1 q.2)) (fun v n' h' hq => by cases hq.1) (fun E n' h' hq => ?_)
    obtain ⟨w1, w2, w3⟩ := hq
    cases w1; subst w3
    obtain ⟨r9, hr9, hk9⟩ := H (n' - q.2.1)
    unfold F_L_path at hr9
    rw [e] at hr9
    simp only [Option.bind_some, Sum.elim_inr] at hr9
    have en : q.2.1 + (n' - q.2.1) = n' := by omega
    rw [en] at hr9
    by_cases c0 : q.1 = "java/util/NoSuchElementException"
    · rw [if_pos c0] at hr9
      cases hr9
      exact ⟨13, 1, by rw [c0]; exact t_L_path_0, h_L_path_0, hk9⟩
    rw [if_neg c0] at hr9
    by_cases c1 : q.1 = "java/lang/IndexOutOfBoundsException"
    · rw [if_pos c1] at hr9
      cases hr9
      exact ⟨17, 2, by rw [c1]; exact t_L_path_1, h_L_path_1, hk9⟩
    rw [if_neg c1] at hr9
    cases hr9
def F_L_load (j : Nat) (S : pS) (a0 : Nat) (a1 : Int32) (a2 : Nat) : Option (Int32 × pS) := (F_X9_load S a0 a1).bind fun q => Sum.elim (fun q => (oSJ q.2 a2 .long (0 : Int32) q.1.toInt64).bind fun S1 => some ((0 : Int32), S1)) (fun q => if q.1 = "java/util/NoSuchElementException" then some ((1 : Int32), (q.2.1 + j, gjunk q.2.2 q.2.1)) else if q.1 = "java/lang/IllegalArgumentException" then some ((2 : Int32), (q.2.1 + j, gjunk q.2.2 q.2.1)) else if q.1 = "java/lang/UnsupportedOperationException" then some ((3 : Int32), (q.2.1 + j, gjunk q.2.2 q.2.1)) else none) q
theorem t_L_load_0 : gCatch mL_load 4 "java/util/NoSuchElementException" 12 := by
  refine ⟨[], ⟨0, 9, 12, 21⟩, [⟨0, 9, 15, 13⟩, ⟨0, 9, 18, 25⟩], rfl, ?_, by decide +kernel, by decide, nL_21.1, by decide, rfl⟩
  exact fun z hz => absurd hz List.not_mem_nil
theorem h_L_load_0 : gHand mL_load 12 1 := ⟨rfl, _, 13, by decide, dL_load_13, dL_load_14, Or.inl ⟨_, dL_load_12, by decide, rfl⟩⟩
theorem t_L_load_1 : gCatch mL_load 4 "java/lang/IllegalArgumentException" 15 := by
  refine ⟨[⟨0, 9, 12, 21⟩], ⟨0, 9, 15, 13⟩, [⟨0, 9, 18, 25⟩], rfl, ?_, by decide +kernel, by decide, nL_13.1, by decide, rfl⟩
  intro z hz
  cases List.mem_singleton.mp hz
  exact ⟨by decide, "java/util/NoSuchElementException", nL_21.1, by decide⟩
theorem h_L_load_1 : gHand mL_load 15 2 := ⟨rfl, _, 16, by decide, dL_load_16, dL_load_17, Or.inl ⟨_, dL_load_15, by decide, rfl⟩⟩
theorem t_L_load_2 : gCatch mL_load 4 "java/lang/UnsupportedOperationException" 18 := by
  refine ⟨[⟨0, 9, 12, 21⟩, ⟨0, 9, 15, 13⟩], ⟨0, 9, 18, 25⟩, [], rfl, ?_, by decide +kernel, by decide, nL_25.1, by decide, rfl⟩
  intro z hz
  rcases List.mem_cons.mp hz with rfl | hz
  · exact ⟨by decide, "java/util/NoSuchElementException", nL_21.1, by decide⟩
  cases List.mem_singleton.mp hz
  exact ⟨by decide, "java/lang/IllegalArgumentException", nL_13.1, by decide⟩
theorem h_L_load_2 : gHand mL_load 18 3 := ⟨rfl, _, 19, by decide, dL_load_19, dL_load_20, Or.inl ⟨_, dL_load_18, by decide, rfl⟩⟩
set_option maxRecDepth 100000 in
set_option maxHeartbeats 4000000 in
theorem C_L_load {X : pX} {Q : pO → Nat → pF → Prop} (S : pS) (a0 : Nat) (a1 : Int32) (a2 : Nat) (H : ∀ j, ∃ r, F_L_load j S a0 a1 a2 = some r ∧ Q (.inl (some (.int r.1))) r.2.1 r.2.2) (hnx : ∀ (E : String) (n' : Nat) (h' : pF), ¬ Q (.inr E) n' h') : gCW X mL_load [.ref a0, .int a1, .ref a2] S.1 S.2 Q 9 1608 := by
  refine gCW_of (by decide) (Nat.le_of_ble_eq_true rfl) hnx ?_
  change gW _ _ _ [some (.ref a0), some (.int a1), some (.ref a2), none] _ _ _ _ _ _
  obtain ⟨r, hr, hk⟩ := H 0
  unfold F_L_load at hr
  replace hr := obind hr
  obtain ⟨q, e, hr⟩ := hr
  refine r_aload_n (pc := 0) dL_load_0 rfl ?_
  refine r_iconst (pc := 1) (0 : Int32) dL_load_1 (by decide) ?_
  refine r_aload_n (pc := 2) dL_load_2 rfl ?_
  refine r_iload_n (pc := 3) dL_load_3 rfl ?_
  rcases q with q | q
  · simp only [Sum.elim_inl] at hr
    refine q_callC (Q' := qR (some (.int q.1)) q.2) (pc := 4) mX9_load 9 [.int a1] dL_load_4 kL_97 fX9_load iX9_load ⟨by decide, by decide⟩ rfl rfl rfl (Nat.le_of_ble_eq_true rfl) (og e) (mc1 := 9) (ms1 := 1608) (mc2 := 0) (ms2 := 0) (by decide) (by decide) (C_X9_load S a0 a1 (.inl q) e (qR_mk (some (.int q.1)) q.2)) (fun v n' h' hq => ?_) (fun E n' h' hq => by cases hq.1)
    obtain ⟨w1, w2, w3⟩ := hq
    cases w1; subst w2; subst w3
    refine r_i2l (pc := 7) dL_load_7 ?_
    replace hr := obind hr
    obtain ⟨S1, es, hr⟩ := hr
    cases hr
    refine q_last (S := q.2) (pc := 8) dL_load_8 es ?_
    refine r_goto (pc := 9) 21 dL_load_9 (by decide) ?_
    refine r_iconst (pc := 21) (0 : Int32) dL_load_21 (by decide) ?_
    exact r_ireturn (pc := 22) .int dL_load_22 rfl rfl hk
  · refine q_callC (Q' := qX q.1 q.2) (pc := 4) mX9_load 9 [.int a1] dL_load_4 kL_97 fX9_load iX9_load ⟨by decide, by decide⟩ rfl rfl rfl (Nat.le_of_ble_eq_true rfl) (og e) (mc1 := 9) (ms1 := 1608) (mc2 := 0) (ms2 := 0) (by decide) (by decide) (C_X9_load S a0 a1 (.inr q) e (qX_mk q.1 q.2)) (fun v n' h' hq => by cases hq.1) (fun E n' h' hq => ?_)
    obtain ⟨w1, w2, w3⟩ := hq
    cases w1; subst w3
    obtain ⟨r9, hr9, hk9⟩ := H (n' - q.2.1)
    unfold F_L_load at hr9
    rw [e] at hr9
    simp only [Option.bind_some, Sum.elim_inr] at hr9
    have en : q.2.1 + (n' - q.2.1) = n' := by omega
    rw [en] at hr9
    by_cases c0 : q.1 = "java/util/NoSuchElementException"
    · rw [if_pos c0] at hr9
      cases hr9
      exact ⟨12, 1, by rw [c0]; exact t_L_load_0, h_L_load_0, hk9⟩
    rw [if_neg c0] at hr9
    by_cases c1 : q.1 = "java/lang/IllegalArgumentException"
    · rw [if_pos c1] at hr9
      cases hr9
      exact ⟨15, 2, by rw [c1]; exact t_L_load_1, h_L_load_1, hk9⟩
    rw [if_neg c1] at hr9
    by_cases c2 : q.1 = "java/lang/UnsupportedOperationException"
    · rw [if_pos c2] at hr9
      cases hr9
      exact ⟨18, 3, by rw [c2]; exact t_L_load_2, h_L_load_2, hk9⟩
    rw [if_neg c2] at hr9
    cases hr9
def F_L_errorPosition (j : Nat) (S : pS) (a0 : Nat) (a1 : Nat) : Option (Int32 × pS) := (F_X9_errorPosition S a0).bind fun q => Sum.elim (fun q => (oSJ q.2 a1 .long (0 : Int32) q.1.toInt64).bind fun S1 => some ((0 : Int32), S1)) (fun q => if q.1 = "java/lang/IllegalStateException" then some ((1 : Int32), (q.2.1 + j, gjunk q.2.2 q.2.1)) else none) q
theorem t_L_errorPosition_0 : gCatch mL_errorPosition 3 "java/lang/IllegalStateException" 11 := by
  refine ⟨[], ⟨0, 8, 11, 15⟩, [], rfl, ?_, by decide +kernel, by decide, nL_15.1, by decide, rfl⟩
  exact fun z hz => absurd hz List.not_mem_nil
theorem h_L_errorPosition_0 : gHand mL_errorPosition 11 1 := ⟨rfl, _, 12, by decide, dL_errorPosition_12, dL_errorPosition_13, Or.inl ⟨_, dL_errorPosition_11, by decide, rfl⟩⟩
set_option maxRecDepth 100000 in
set_option maxHeartbeats 4000000 in
theorem C_L_errorPosition {X : pX} {Q : pO → Nat → pF → Prop} (S : pS) (a0 : Nat) (a1 : Nat) (H : ∀ j, ∃ r, F_L_errorPosition j S a0 a1 = some r ∧ Q (.inl (some (.int r.1))) r.2.1 r.2.2) (hnx : ∀ (E : String) (n' : Nat) (h' : pF), ¬ Q (.inr E) n' h') : gCW X mL_errorPosition [.ref a0, .ref a1] S.1 S.2 Q 1 6 := by
  refine gCW_of (by decide) (Nat.le_of_ble_eq_true rfl) hnx ?_
  change gW _ _ _ [some (.ref a0), some (.ref a1), none] _ _ _ _ _ _
  obtain ⟨r, hr, hk⟩ := H 0
  unfold F_L_errorPosition at hr
  replace hr := obind hr
  obtain ⟨q, e, hr⟩ := hr
  refine r_aload_n (pc := 0) dL_errorPosition_0 rfl ?_
  refine r_iconst (pc := 1) (0 : Int32) dL_errorPosition_1 (by decide) ?_
  refine r_aload_n (pc := 2) dL_errorPosition_2 rfl ?_
  rcases q with q | q
  · simp only [Sum.elim_inl] at hr
    refine q_callC (Q' := qR (some (.int q.1)) q.2) (pc := 3) mX9_errorPosition 9 [] dL_errorPosition_3 kL_100 fX9_errorPosition iX9_errorPosition ⟨by decide, by decide⟩ rfl rfl rfl (Nat.le_of_ble_eq_true rfl) (og e) (mc1 := 1) (ms1 := 6) (mc2 := 0) (ms2 := 0) (by decide) (by decide) (C_X9_errorPosition S a0 (.inl q) e (qR_mk (some (.int q.1)) q.2)) (fun v n' h' hq => ?_) (fun E n' h' hq => by cases hq.1)
    obtain ⟨w1, w2, w3⟩ := hq
    cases w1; subst w2; subst w3
    refine r_i2l (pc := 6) dL_errorPosition_6 ?_
    replace hr := obind hr
    obtain ⟨S1, es, hr⟩ := hr
    cases hr
    refine q_last (S := q.2) (pc := 7) dL_errorPosition_7 es ?_
    refine r_goto (pc := 8) 14 dL_errorPosition_8 (by decide) ?_
    refine r_iconst (pc := 14) (0 : Int32) dL_errorPosition_14 (by decide) ?_
    exact r_ireturn (pc := 15) .int dL_errorPosition_15 rfl rfl hk
  · refine q_callC (Q' := qX q.1 q.2) (pc := 3) mX9_errorPosition 9 [] dL_errorPosition_3 kL_100 fX9_errorPosition iX9_errorPosition ⟨by decide, by decide⟩ rfl rfl rfl (Nat.le_of_ble_eq_true rfl) (og e) (mc1 := 1) (ms1 := 6) (mc2 := 0) (ms2 := 0) (by decide) (by decide) (C_X9_errorPosition S a0 (.inr q) e (qX_mk q.1 q.2)) (fun v n' h' hq => by cases hq.1) (fun E n' h' hq => ?_)
    obtain ⟨w1, w2, w3⟩ := hq
    cases w1; subst w3
    obtain ⟨r9, hr9, hk9⟩ := H (n' - q.2.1)
    unfold F_L_errorPosition at hr9
    rw [e] at hr9
    simp only [Option.bind_some, Sum.elim_inr] at hr9
    have en : q.2.1 + (n' - q.2.1) = n' := by omega
    rw [en] at hr9
    by_cases c0 : q.1 = "java/lang/IllegalStateException"
    · rw [if_pos c0] at hr9
      cases hr9
      exact ⟨11, 1, by rw [c0]; exact t_L_errorPosition_0, h_L_errorPosition_0, hk9⟩
    rw [if_neg c0] at hr9
    cases hr9
def F_L_refusal (j : Nat) (S : pS) (a0 : Nat) (a1 : Int32) (a2 : Nat) : Option (Int32 × pS) := (F_X9_refusal S a0 a1).bind fun q => Sum.elim (fun q => (oSJ q.2 a2 .long (0 : Int32) q.1.toInt64).bind fun S1 => some ((0 : Int32), S1)) (fun q => if q.1 = "java/lang/IllegalStateException" then some ((1 : Int32), (q.2.1 + j, gjunk q.2.2 q.2.1)) else if q.1 = "java/lang/IndexOutOfBoundsException" then some ((2 : Int32), (q.2.1 + j, gjunk q.2.2 q.2.1)) else none) q
theorem t_L_refusal_0 : gCatch mL_refusal 4 "java/lang/IllegalStateException" 12 := by
  refine ⟨[], ⟨0, 9, 12, 15⟩, [⟨0, 9, 15, 23⟩], rfl, ?_, by decide +kernel, by decide, nL_15.1, by decide, rfl⟩
  exact fun z hz => absurd hz List.not_mem_nil
theorem h_L_refusal_0 : gHand mL_refusal 12 1 := ⟨rfl, _, 13, by decide, dL_refusal_13, dL_refusal_14, Or.inl ⟨_, dL_refusal_12, by decide, rfl⟩⟩
theorem t_L_refusal_1 : gCatch mL_refusal 4 "java/lang/IndexOutOfBoundsException" 15 := by
  refine ⟨[⟨0, 9, 12, 15⟩], ⟨0, 9, 15, 23⟩, [], rfl, ?_, by decide +kernel, by decide, nL_23.1, by decide, rfl⟩
  intro z hz
  cases List.mem_singleton.mp hz
  exact ⟨by decide, "java/lang/IllegalStateException", nL_15.1, by decide⟩
theorem h_L_refusal_1 : gHand mL_refusal 15 2 := ⟨rfl, _, 16, by decide, dL_refusal_16, dL_refusal_17, Or.inl ⟨_, dL_refusal_15, by decide, rfl⟩⟩
set_option maxRecDepth 100000 in
set_option maxHeartbeats 4000000 in
theorem C_L_refusal {X : pX} {Q : pO → Nat → pF → Prop} (S : pS) (a0 : Nat) (a1 : Int32) (a2 : Nat) (H : ∀ j, ∃ r, F_L_refusal j S a0 a1 a2 = some r ∧ Q (.inl (some (.int r.1))) r.2.1 r.2.2) (hnx : ∀ (E : String) (n' : Nat) (h' : pF), ¬ Q (.inr E) n' h') : gCW X mL_refusal [.ref a0, .int a1, .ref a2] S.1 S.2 Q 1 6 := by
  refine gCW_of (by decide) (Nat.le_of_ble_eq_true rfl) hnx ?_
  change gW _ _ _ [some (.ref a0), some (.int a1), some (.ref a2), none] _ _ _ _ _ _
  obtain ⟨r, hr, hk⟩ := H 0
  unfold F_L_refusal at hr
  replace hr := obind hr
  obtain ⟨q, e, hr⟩ := hr
  refine r_aload_n (pc := 0) dL_refusal_0 rfl ?_
  refine r_iconst (pc := 1) (0 : Int32) dL_refusal_1 (by decide) ?_
  refine r_aload_n (pc := 2) dL_refusal_2 rfl ?_
  refine r_iload_n (pc := 3) dL_refusal_3 rfl ?_
  rcases q with q | q
  · simp only [Sum.elim_inl] at hr
    refine q_callC (Q' := qR (some (.int q.1)) q.2) (pc := 4) mX9_refusal 9 [.int a1] dL_refusal_4 kL_103 fX9_refusal iX9_refusal ⟨by decide, by decide⟩ rfl rfl rfl (Nat.le_of_ble_eq_true rfl) (og e) (mc1 := 1) (ms1 := 6) (mc2 := 0) (ms2 := 0) (by decide) (by decide) (C_X9_refusal S a0 a1 (.inl q) e (qR_mk (some (.int q.1)) q.2)) (fun v n' h' hq => ?_) (fun E n' h' hq => by cases hq.1)
    obtain ⟨w1, w2, w3⟩ := hq
    cases w1; subst w2; subst w3
    refine r_i2l (pc := 7) dL_refusal_7 ?_
    replace hr := obind hr
    obtain ⟨S1, es, hr⟩ := hr
    cases hr
    refine q_last (S := q.2) (pc := 8) dL_refusal_8 es ?_
    refine r_goto (pc := 9) 18 dL_refusal_9 (by decide) ?_
    refine r_iconst (pc := 18) (0 : Int32) dL_refusal_18 (by decide) ?_
    exact r_ireturn (pc := 19) .int dL_refusal_19 rfl rfl hk
  · refine q_callC (Q' := qX q.1 q.2) (pc := 4) mX9_refusal 9 [.int a1] dL_refusal_4 kL_103 fX9_refusal iX9_refusal ⟨by decide, by decide⟩ rfl rfl rfl (Nat.le_of_ble_eq_true rfl) (og e) (mc1 := 1) (ms1 := 6) (mc2 := 0) (ms2 := 0) (by decide) (by decide) (C_X9_refusal S a0 a1 (.inr q) e (qX_mk q.1 q.2)) (fun v n' h' hq => by cases hq.1) (fun E n' h' hq => ?_)
    obtain ⟨w1, w2, w3⟩ := hq
    cases w1; subst w3
    obtain ⟨r9, hr9, hk9⟩ := H (n' - q.2.1)
    unfold F_L_refusal at hr9
    rw [e] at hr9
    simp only [Option.bind_some, Sum.elim_inr] at hr9
    have en : q.2.1 + (n' - q.2.1) = n' := by omega
    rw [en] at hr9
    by_cases c0 : q.1 = "java/lang/IllegalStateException"
    · rw [if_pos c0] at hr9
      cases hr9
      exact ⟨12, 1, by rw [c0]; exact t_L_refusal_0, h_L_refusal_0, hk9⟩
    rw [if_neg c0] at hr9
    by_cases c1 : q.1 = "java/lang/IndexOutOfBoundsException"
    · rw [if_pos c1] at hr9
      cases hr9
      exact ⟨15, 2, by rw [c1]; exact t_L_refusal_1, h_L_refusal_1, hk9⟩
    rw [if_neg c1] at hr9
    cases hr9
def F_L_undo (j : Nat) (S : pS) (a0 : Nat) (a1 : Nat) : Option (Int32 × pS) := (F_X9_undo S a0).bind fun q => Sum.elim (fun q => (oSJ q.2 a1 .long (0 : Int32) q.1.toInt64).bind fun S1 => some ((0 : Int32), S1)) (fun q => if q.1 = "java/lang/IllegalStateException" then some ((1 : Int32), (q.2.1 + j, gjunk q.2.2 q.2.1)) else none) q
theorem t_L_undo_0 : gCatch mL_undo 3 "java/lang/IllegalStateException" 11 := by
  refine ⟨[], ⟨0, 8, 11, 15⟩, [], rfl, ?_, by decide +kernel, by decide, nL_15.1, by decide, rfl⟩
  exact fun z hz => absurd hz List.not_mem_nil
theorem h_L_undo_0 : gHand mL_undo 11 1 := ⟨rfl, _, 12, by decide, dL_undo_12, dL_undo_13, Or.inl ⟨_, dL_undo_11, by decide, rfl⟩⟩
set_option maxRecDepth 100000 in
set_option maxHeartbeats 4000000 in
theorem C_L_undo {X : pX} {Q : pO → Nat → pF → Prop} (S : pS) (a0 : Nat) (a1 : Nat) (H : ∀ j, ∃ r, F_L_undo j S a0 a1 = some r ∧ Q (.inl (some (.int r.1))) r.2.1 r.2.2) (hnx : ∀ (E : String) (n' : Nat) (h' : pF), ¬ Q (.inr E) n' h') : gCW X mL_undo [.ref a0, .ref a1] S.1 S.2 Q 1 6 := by
  refine gCW_of (by decide) (Nat.le_of_ble_eq_true rfl) hnx ?_
  change gW _ _ _ [some (.ref a0), some (.ref a1), none] _ _ _ _ _ _
  obtain ⟨r, hr, hk⟩ := H 0
  unfold F_L_undo at hr
  replace hr := obind hr
  obtain ⟨q, e, hr⟩ := hr
  refine r_aload_n (pc := 0) dL_undo_0 rfl ?_
  refine r_iconst (pc := 1) (0 : Int32) dL_undo_1 (by decide) ?_
  refine r_aload_n (pc := 2) dL_undo_2 rfl ?_
  rcases q with q | q
  · simp only [Sum.elim_inl] at hr
    refine q_callC (Q' := qR (some (.int q.1)) q.2) (pc := 3) mX9_undo 9 [] dL_undo_3 kL_106 fX9_undo iX9_undo ⟨by decide, by decide⟩ rfl rfl rfl (Nat.le_of_ble_eq_true rfl) (og e) (mc1 := 1) (ms1 := 6) (mc2 := 0) (ms2 := 0) (by decide) (by decide) (C_X9_undo S a0 (.inl q) e (qR_mk (some (.int q.1)) q.2)) (fun v n' h' hq => ?_) (fun E n' h' hq => by cases hq.1)
    obtain ⟨w1, w2, w3⟩ := hq
    cases w1; subst w2; subst w3
    refine r_i2l (pc := 6) dL_undo_6 ?_
    replace hr := obind hr
    obtain ⟨S1, es, hr⟩ := hr
    cases hr
    refine q_last (S := q.2) (pc := 7) dL_undo_7 es ?_
    refine r_goto (pc := 8) 14 dL_undo_8 (by decide) ?_
    refine r_iconst (pc := 14) (0 : Int32) dL_undo_14 (by decide) ?_
    exact r_ireturn (pc := 15) .int dL_undo_15 rfl rfl hk
  · refine q_callC (Q' := qX q.1 q.2) (pc := 3) mX9_undo 9 [] dL_undo_3 kL_106 fX9_undo iX9_undo ⟨by decide, by decide⟩ rfl rfl rfl (Nat.le_of_ble_eq_true rfl) (og e) (mc1 := 1) (ms1 := 6) (mc2 := 0) (ms2 := 0) (by decide) (by decide) (C_X9_undo S a0 (.inr q) e (qX_mk q.1 q.2)) (fun v n' h' hq => by cases hq.1) (fun E n' h' hq => ?_)
    obtain ⟨w1, w2, w3⟩ := hq
    cases w1; subst w3
    obtain ⟨r9, hr9, hk9⟩ := H (n' - q.2.1)
    unfold F_L_undo at hr9
    rw [e] at hr9
    simp only [Option.bind_some, Sum.elim_inr] at hr9
    have en : q.2.1 + (n' - q.2.1) = n' := by omega
    rw [en] at hr9
    by_cases c0 : q.1 = "java/lang/IllegalStateException"
    · rw [if_pos c0] at hr9
      cases hr9
      exact ⟨11, 1, by rw [c0]; exact t_L_undo_0, h_L_undo_0, hk9⟩
    rw [if_neg c0] at hr9
    cases hr9
def F_L_restore (j : Nat) (S : pS) (a0 : Nat) (a1 : Nat) : Option (Int32 × pS) := (F_X9_restore S a0).bind fun q => Sum.elim (fun q => (oSJ q.2 a1 .long (0 : Int32) q.1.toInt64).bind fun S1 => some ((0 : Int32), S1)) (fun q => if q.1 = "java/lang/IllegalStateException" then some ((1 : Int32), (q.2.1 + j, gjunk q.2.2 q.2.1)) else none) q
theorem t_L_restore_0 : gCatch mL_restore 3 "java/lang/IllegalStateException" 11 := by
  refine ⟨[], ⟨0, 8, 11, 15⟩, [], rfl, ?_, by decide +kernel, by decide, nL_15.1, by decide, rfl⟩
  exact fun z hz => absurd hz List.not_mem_nil
theorem h_L_restore_0 : gHand mL_restore 11 1 := ⟨rfl, _, 12, by decide, dL_restore_12, dL_restore_13, Or.inl ⟨_, dL_restore_11, by decide, rfl⟩⟩
set_option maxRecDepth 100000 in
set_option maxHeartbeats 4000000 in
theorem C_L_restore {X : pX} {Q : pO → Nat → pF → Prop} (S : pS) (a0 : Nat) (a1 : Nat) (H : ∀ j, ∃ r, F_L_restore j S a0 a1 = some r ∧ Q (.inl (some (.int r.1))) r.2.1 r.2.2) (hnx : ∀ (E : String) (n' : Nat) (h' : pF), ¬ Q (.inr E) n' h') : gCW X mL_restore [.ref a0, .ref a1] S.1 S.2 Q 1 6 := by
  refine gCW_of (by decide) (Nat.le_of_ble_eq_true rfl) hnx ?_
  change gW _ _ _ [some (.ref a0), some (.ref a1), none] _ _ _ _ _ _
  obtain ⟨r, hr, hk⟩ := H 0
  unfold F_L_restore at hr
  replace hr := obind hr
  obtain ⟨q, e, hr⟩ := hr
  refine r_aload_n (pc := 0) dL_restore_0 rfl ?_
  refine r_iconst (pc := 1) (0 : Int32) dL_restore_1 (by decide) ?_
  refine r_aload_n (pc := 2) dL_restore_2 rfl ?_
  rcases q with q | q
  · simp only [Sum.elim_inl] at hr
    refine q_callC (Q' := qR (some (.int q.1)) q.2) (pc := 3) mX9_restore 9 [] dL_restore_3 kL_109 fX9_restore iX9_restore ⟨by decide, by decide⟩ rfl rfl rfl (Nat.le_of_ble_eq_true rfl) (og e) (mc1 := 1) (ms1 := 6) (mc2 := 0) (ms2 := 0) (by decide) (by decide) (C_X9_restore S a0 (.inl q) e (qR_mk (some (.int q.1)) q.2)) (fun v n' h' hq => ?_) (fun E n' h' hq => by cases hq.1)
    obtain ⟨w1, w2, w3⟩ := hq
    cases w1; subst w2; subst w3
    refine r_i2l (pc := 6) dL_restore_6 ?_
    replace hr := obind hr
    obtain ⟨S1, es, hr⟩ := hr
    cases hr
    refine q_last (S := q.2) (pc := 7) dL_restore_7 es ?_
    refine r_goto (pc := 8) 14 dL_restore_8 (by decide) ?_
    refine r_iconst (pc := 14) (0 : Int32) dL_restore_14 (by decide) ?_
    exact r_ireturn (pc := 15) .int dL_restore_15 rfl rfl hk
  · refine q_callC (Q' := qX q.1 q.2) (pc := 3) mX9_restore 9 [] dL_restore_3 kL_109 fX9_restore iX9_restore ⟨by decide, by decide⟩ rfl rfl rfl (Nat.le_of_ble_eq_true rfl) (og e) (mc1 := 1) (ms1 := 6) (mc2 := 0) (ms2 := 0) (by decide) (by decide) (C_X9_restore S a0 (.inr q) e (qX_mk q.1 q.2)) (fun v n' h' hq => by cases hq.1) (fun E n' h' hq => ?_)
    obtain ⟨w1, w2, w3⟩ := hq
    cases w1; subst w3
    obtain ⟨r9, hr9, hk9⟩ := H (n' - q.2.1)
    unfold F_L_restore at hr9
    rw [e] at hr9
    simp only [Option.bind_some, Sum.elim_inr] at hr9
    have en : q.2.1 + (n' - q.2.1) = n' := by omega
    rw [en] at hr9
    by_cases c0 : q.1 = "java/lang/IllegalStateException"
    · rw [if_pos c0] at hr9
      cases hr9
      exact ⟨11, 1, by rw [c0]; exact t_L_restore_0, h_L_restore_0, hk9⟩
    rw [if_neg c0] at hr9
    cases hr9
