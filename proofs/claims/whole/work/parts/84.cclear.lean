/-! the class: clear -/
section CCL
variable {S : pS} {R : Nat → Option Nat} {c1 c2 a : Nat} {T : Tr} {A : As}
theorem tNew_ok : good tNew := by
  have hp : ∀ i, tPres tNew i = true → i = 0 := fun i h => of_decide_eq_true h
  have hok : tOk tNew := by
    refine ⟨rfl, Nat.zero_le _, fun i h => by rw [hp i h]; exact Nat.zero_le _, ?_⟩
    first
      | exact ⟨fun i h => by simp [tKids, tNew], fun i h => by simp [tKids, tNew]⟩
      | (simp [tKids, tNew, tName])
  refine ⟨hok, fun i h h0 => absurd (hp i h) h0, ?_⟩
  rw [way_eq hok rfl]
  show ((([] : List Nat)).map _).sum ≤ 300
  exact Nat.zero_le _
theorem c_reset (h : TR S a T) (h0 : tName T 0 = []) (hp : tPres T 0 = true) : ∃ S', F_X8_reset S a = some S' ∧ TR S' a tNew ∧ Bk S S' a 7 := by
  unfold F_X8_reset
  have hn0 : cI (S.2 (a + 3)) 0 = 0 := by
    have := (h.2.2.2 0 hp).2.2.2.2.2.2.1
    rw [this, h0]; rfl
  have hs := h.1
  rw [s8_oF hs, s8_p6 hs, Option.bind_some]
  have k1 := s8_k6 hs hs 1
  have v1 := s8_v6 hs 1
  have n1 : (wF S a 6 (.long 1)).1 = S.1 := rfl
  have o1 : ∀ q, q ≠ a → (wF S a 6 (.long 1)).2 q = S.2 q := fun q hq => wF_ne _ _ _ hq
  generalize wF S a 6 (.long 1) = S1 at *
  rw [s8_p7 k1, Option.bind_some]
  have k2 := s8_k7 k1 k1 0
  have v2 := s8_v7 k1 0
  have w2 : fJ ((wF S1 a 7 (.long 0)).2 a) 6 = 1 := (fJ_wF_ne _ _ _ (by decide)).trans v1
  have n2 : (wF S1 a 7 (.long 0)).1 = S.1 := n1
  have o2 : ∀ q, q ≠ a → (wF S1 a 7 (.long 0)).2 q = S.2 q := fun q hq => (wF_ne _ _ _ hq).trans (o1 q hq)
  generalize wF S1 a 7 (.long 0) = S2 at *
  rw [s8_p8 k2, Option.bind_some]
  have k3 := s8_k8 k2 k2 0
  have v3 := s8_v8 k2 0
  have w3 : fJ ((wF S2 a 8 (.long 0)).2 a) 6 = 1 := (fJ_wF_ne _ _ _ (by decide)).trans w2
  have x3 : fJ ((wF S2 a 8 (.long 0)).2 a) 7 = 0 := (fJ_wF_ne _ _ _ (by decide)).trans v2
  have n3 : (wF S2 a 8 (.long 0)).1 = S.1 := n2
  have o3 : ∀ q, q ≠ a → (wF S2 a 8 (.long 0)).2 q = S.2 q := fun q hq => (wF_ne _ _ _ hq).trans (o2 q hq)
  generalize wF S2 a 8 (.long 0) = S3 at *
  rw [s8_p9 k3, Option.bind_some]
  have k4 := s8_k9 k3 k3 0
  have v4 := s8_v9 k3 0
  have w4 : fJ ((wF S3 a 9 (.int 0)).2 a) 6 = 1 := (fJ_wF_ne _ _ _ (by decide)).trans w3
  have x4 : fJ ((wF S3 a 9 (.int 0)).2 a) 7 = 0 := (fJ_wF_ne _ _ _ (by decide)).trans x3
  have y4 : fJ ((wF S3 a 9 (.int 0)).2 a) 8 = 0 := (fJ_wF_ne _ _ _ (by decide)).trans v3
  have n4 : (wF S3 a 9 (.int 0)).1 = S.1 := n3
  have o4 : ∀ q, q ≠ a → (wF S3 a 9 (.int 0)).2 q = S.2 q := fun q hq => (wF_ne _ _ _ hq).trans (o3 q hq)
  generalize wF S3 a 9 (.int 0) = S4 at *
  have ew1 : oSI S4 (a + 1) .int (0 : Int32) 0 = some (wI S4 (a + 1) 0 0) := s8_w0 k4 (i := 0) (by decide) 0
  rw [s8_g0 k4, Option.bind_some, ew1, Option.bind_some]
  have k5 := sh_wI k4 (a + 1) 0 0
  have v5 : cI ((wI S4 (a + 1) 0 0).2 (a + 1)) 0 = 0 := by rw [s8_v0 k4]; exact pu_at _ _ _
  have n5 : (wI S4 (a + 1) 0 0).1 = S.1 := n4
  have o5 : ∀ q, q ≠ a + 1 → (wI S4 (a + 1) 0 0).2 q = S4.2 q := fun q hq => wI_ne _ _ _ hq
  generalize wI S4 (a + 1) 0 0 = S5 at *
  have ew2 : oSI S5 (a + 5) .int (0 : Int32) 0 = some (wI S5 (a + 5) 0 0) := s8_w4 k5 (i := 0) (by decide) 0
  rw [s8_g4 k5, Option.bind_some, ew2, Option.bind_some]
  have k6 := sh_wI k5 (a + 5) 0 0
  have v6 : cI ((wI S5 (a + 5) 0 0).2 (a + 5)) 0 = 0 := by rw [s8_v4 k5]; exact pu_at _ _ _
  have n6 : (wI S5 (a + 5) 0 0).1 = S.1 := n5
  have o6 : ∀ q, q ≠ a + 5 → (wI S5 (a + 5) 0 0).2 q = S5.2 q := fun q hq => wI_ne _ _ _ hq
  generalize wI S5 (a + 5) 0 0 = S6 at *
  have ew3 : oSI S6 (a + 6) .int (0 : Int32) (-1) = some (wI S6 (a + 6) 0 (-1)) := s8_w5 k6 (i := 0) (by decide) (-1)
  rw [s8_g5 k6, Option.bind_some, ew3, Option.bind_some]
  have k7 := sh_wI k6 (a + 6) 0 (-1)
  have v7 : cI ((wI S6 (a + 6) 0 (-1)).2 (a + 6)) 0 = -1 := by rw [s8_v5 k6]; exact pu_at _ _ _
  have n7 : (wI S6 (a + 6) 0 (-1)).1 = S.1 := n6
  have o7 : ∀ q, q ≠ a + 6 → (wI S6 (a + 6) 0 (-1)).2 q = S6.2 q := fun q hq => wI_ne _ _ _ hq
  generalize wI S6 (a + 6) 0 (-1) = S7 at *
  have fa : S7.2 a = S4.2 a := by rw [o7 a (by omega), o6 a (by omega), o5 a (by omega)]
  refine ⟨S7, rfl, ⟨k7, by rw [fa, v4]; rfl, fun i hi => by rw [fa, w4, lb_1]; rfl, fun i hi => ?_⟩, n7, fun q hq => by rw [o7 q (by omega), o6 q (by omega), o5 q (by omega), o4 q (by omega)]⟩
  have : i = 0 := of_decide_eq_true hi
  subst this
  have f3 : S7.2 (a + 3) = S.2 (a + 3) := by rw [o7 _ (by omega), o6 _ (by omega), o5 _ (by omega), o4 _ (by omega)]
  have f1 : S7.2 (a + 1) = S5.2 (a + 1) := by rw [o7 _ (by omega), o6 _ (by omega)]
  have f5 : S7.2 (a + 5) = S6.2 (a + 5) := by rw [o7 _ (by omega)]
  rw [fa, f3, f1, f5, x4, y4, lb_0, v5, v6, v7, hn0]
  refine ⟨rfl, rfl, rfl, rfl, rfl, fun k c hc => ?_, rfl, fun k x hx => ?_⟩
  · have hc' : ([] : List Nat)[k]? = some c := hc
    simp at hc'
  · have hx' : ([] : List Int32)[k]? = some x := hx
    simp at hx'
theorem c_clear (h : CSr S A R c1 c2) (hA : aOk A) : cP S (F_X9_clear S 0) (stClear A) := by
  unfold F_X9_clear stClear
  obtain ⟨t, ht⟩ := cs_t h
  have h0 := h
  obtain ⟨x, ts, ho, hh, cd, xt, cn, sc, th, sk, cc, hl⟩ := h
  have h111 := x.1
  have hT := hA.1.1
  have hr : tName (aT A) 0 = [] := hA.2.2.2.2.2.2.2.2.2.2.2.2.1
  rw [x_oF x, x_g0 x ht, Option.bind_some, c_countItems (th.1 t ht) hT, Option.bind_some, Option.bind_some]
  obtain ⟨S1, e1, t1, k1⟩ := c_reset (th.1 t ht) hr hT.1
  have n1 := k1.1
  have htp := (ts.1 0 t (by omega) ht).1
  have x1 := XO_fr x (S' := S1) (by omega) (k1.2 0 (by omega))
  have ho1 := HO_fr ho (S' := S1) (by omega) (fun q q1 q2 => k1.2 q (by omega))
  obtain ⟨S2, e2, n2, o2, ho2⟩ := h_n ho1 0
  have ef : F_X3_forget S1 31 = some S2 := by
    unfold F_X3_forget
    have e2' : oPI S1 31 3 1 (0 : Int32) = some S2 := e2
    rw [(h_g ho1).1, e2', Option.bind_some]
  have x2 := XO_fr x1 (S' := S2) (by omega) (o2 0 (by decide))
  have f02 : ∀ q, (q < t ∨ t + 7 ≤ q) → q ≠ 31 → S2.2 q = S.2 q := fun q hq h31 => (o2 q h31).trans (k1.2 q hq)
  have hh2 := HS_fr hh (S' := S2) (by omega) (fun q q1 q2 => f02 q (by omega) (by omega))
  have cd2 := CD_fr cd (S' := S2) (by omega) (fun q q1 q2 => f02 q (by omega) (by omega))
  rw [e1, Option.bind_some, (x_gs x1).2.2.1, Option.bind_some, ef, Option.bind_some, (x_gs x2).2.2.2.1, Option.bind_some]
  unfold F_X4_endAll
  have k3 := hh2.1
  rw [s4_oF k3, s4_p1 k3, Option.bind_some, Option.bind_some]
  have k4 := s4_k1 k3 k3 0
  have v4 := s4_v1 k3 0
  have n4 : (wF S2 33 1 (.int 0)).1 = S2.1 := rfl
  have o4 : ∀ q, q ≠ 33 → (wF S2 33 1 (.int 0)).2 q = S2.2 q := fun q hq => wF_ne _ _ _ hq
  generalize wF S2 33 1 (.int 0) = S4 at *
  have x4 := XO_fr x2 (S' := S4) (by omega) (o4 0 (by decide))
  have cd4 := CD_fr cd2 (S' := S4) (by omega) (fun q q1 q2 => o4 q (by omega))
  have k5 := cd4.1
  unfold F_X1_forget
  rw [(x_gs x4).2.2.2.2.1, Option.bind_some, s1_oF k5, s1_p5 k5, Option.bind_some, Option.bind_some]
  have k6 := s1_k5 k5 k5 0
  have v6 := s1_v5 k5 0
  have n6 : (wF S4 c1 5 (.int 0)).1 = S4.1 := rfl
  have o6 : ∀ q, q ≠ c1 → (wF S4 c1 5 (.int 0)).2 q = S4.2 q := fun q hq => wF_ne _ _ _ hq
  generalize wF S4 c1 5 (.int 0) = S6 at *
  have f26 : ∀ q, q ≠ 33 → q ≠ c1 → S6.2 q = S2.2 q := fun q q1 q2 => (o6 q q2).trans (o4 q q1)
  have f06 : ∀ q, (q < t ∨ t + 7 ≤ q) → q ≠ 31 → q ≠ 33 → q ≠ c1 → S6.2 q = S.2 q := fun q q1 q2 q3 q4 => (f26 q q3 q4).trans (f02 q q1 q2)
  have x6 := XO_fr x4 (S' := S6) (by omega) (o6 0 (by omega))
  have t6 : TR S6 t tNew := TR_fr t1 (by omega) (fun q q1 q2 => (f26 q (by omega) (by omega)).trans (o2 q (by omega)))
  have tr6 : ∀ i a q, i < 11 → i ≠ 0 → R i = some a → a ≤ q → q < a + 7 → S6.2 q = S.2 q := fun i a q hi h0 ha q1 q2 => by
    have := (ts.1 i a hi ha).1
    have := ts.2 i 0 a t hi (by omega) h0 ha ht
    exact f06 q (by omega) (by omega) (by omega) (by omega)
  have ts6 : TS S6 R := ⟨fun i a hi ha => ⟨(ts.1 i a hi ha).1, by
    by_cases c : i = 0
    · subst c
      rw [ht] at ha
      cases ha
      exact t6.1
    · exact sh_fr (ts.1 i a hi ha).2 (by omega) (fun q q1 q2 => tr6 i a q hi c ha q1 (by have : sp8.length = 7 := rfl; omega))⟩, ts.2⟩
  have hs6 : HS S6 [] := ⟨sh_fr k4 (by omega) (fun q q1 q2 => o6 q (by have : sp4.length = 2 := rfl; omega)), by rw [o6 33 (by omega), v4]; rfl, fun k i hk => by simp at hk⟩
  have cd6 : CD S6 c1 [] := ⟨k6, by rw [v6]; rfl, fun n q hk => by simp at hk⟩
  obtain ⟨S7, e7, h7, f7, t7⟩ := c_backEnd (R' := R) (S1 := S6) (hi := []) (L := []) (H := []) (U := tNew) h0 hA (by omega) x6 ts6 ht t6 tNew_ok.1 (HO_fr ho2 (S' := S6) (by omega) (fun q q1 q2 => f26 q (by omega) (by omega))) (Nat.zero_le _) hs6 (Nat.zero_le _) (fun i hi => by simp at hi) cd6 (fun q q1 q2 q3 q4 q5 => f06 q (by omega) (by omega) (by omega) (by omega))
    (sv_fr th rfl (fun b V h1 h2 => TR_fr h2 (by omega) (fun q q1 q2 => tr6 2 b q (by omega) (by omega) h1 q1 q2)))
    (fun k V hk => by simp at hk)
  rw [e7, Option.bind_some]
  refine ⟨S7, Fm_trans ⟨by omega, fun q q1 q2 => f06 q (by omega) (by omega) (by omega) (by omega)⟩ f7, ⟨_, _, _, h7⟩, rfl⟩
end CCL
