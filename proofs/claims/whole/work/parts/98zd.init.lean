/-! the start: both states hold the empty outline -/
section STB
def A0 : As := (tNew, none, [], [], [], none, [], [])
def R0 : Nat → Option Nat := fun i => if i = 0 then some 1 else if i = 1 then some 8 else none
theorem R0_some {i a : Nat} (h : R0 i = some a) : (i = 0 ∧ a = 1) ∨ (i = 1 ∧ a = 8) := by
  unfold R0 at h
  by_cases c : i = 0
  · rw [if_pos c] at h; cases h; exact Or.inl ⟨c, rfl⟩
  · rw [if_neg c] at h
    by_cases d : i = 1
    · rw [if_pos d] at h; cases h; exact Or.inr ⟨d, rfl⟩
    · rw [if_neg d] at h; cases h
theorem TR_start {S : pS} {a : Nat} (hs : Sh S a sp8) (y9 : fI (S.2 a) 9 = 0) (y6 : fJ (S.2 a) 6 = 1) (y7 : fJ (S.2 a) 7 = 0) (y8 : fJ (S.2 a) 8 = 0) (c5 : cI (S.2 (a + 5)) 0 = 0) (c6 : cI (S.2 (a + 6)) 0 = -1) (c1 : cI (S.2 (a + 1)) 0 = 0) (c3 : cI (S.2 (a + 3)) 0 = 0) : TR S a tNew := by
  refine ⟨hs, y9, fun i hi => ?_, fun i hi => ?_⟩
  · rw [y6, lb_1]; rfl
  · have : i = 0 := of_decide_eq_true hi
    subst this
    rw [y7, y8, lb_0]
    refine ⟨rfl, rfl, c5, c6, c1, fun k c hc => ?_, c3, fun k x hx => ?_⟩
    · have hc' : ([] : List Nat)[k]? = some c := hc
      simp at hc'
    · have hx' : ([] : List Int32)[k]? = some x := hx
      simp at hx'
theorem sk_s1 : ∀ c, c < 61 → cI (s9.2 16) c = nI (par tNew c).length ∧ cI (s9.2 19) c = nI (plcT tNew c) ∧ cI (s9.2 20) c = dpk tNew tru (ordT tNew).length c := by decide +kernel
theorem sk_s2 : ordT tNew = [0] := by decide +kernel
theorem sk_s3 : fI (s9.2 15) 3 = 1 ∧ cI (s9.2 18) 0 = 0 ∧ cI (s9.2 21) 0 = nI (wayT tNew 0) ∧ cJ (s9.2 22) 0 = famT tNew 0 := by decide +kernel
theorem tr_s1 : fI (s9.2 1) 9 = 0 ∧ fJ (s9.2 1) 6 = 1 ∧ fJ (s9.2 1) 7 = 0 ∧ fJ (s9.2 1) 8 = 0 ∧ cI (s9.2 6) 0 = 0 ∧ cI (s9.2 7) 0 = -1 ∧ cI (s9.2 2) 0 = 0 ∧ cI (s9.2 4) 0 = 0 := by decide +kernel
theorem fl_s : fI (s9.2 33) 1 = 0 ∧ fI (s9.2 35) 5 = 0 ∧ fI (s9.2 53) 1 = 0 ∧ fI (s9.2 64) 1 = 0 := by decide +kernel
set_option maxRecDepth 100000 in
set_option maxHeartbeats 4000000 in
theorem CS_start {S : pS} (hn : 111 ≤ S.1) (h : ∀ q, q < 68 → S.2 q = s9.2 q) : CSr S A0 R0 35 41 := by
  have l0 : sp0.length = 2 := rfl
  have l1 : sp1.length = 6 := rfl
  have l2 : sp2.length = 9 := rfl
  have l4 : sp4.length = 2 := rfl
  have l5 : sp5.length = 6 := rfl
  have l6 : sp6.length = 8 := rfl
  have l7 : sp7.length = 2 := rfl
  have l8 : sp8.length = 7 := rfl
  have h9 := s9_n
  have g1 : Sh S 1 sp8 := sh_fr st_1 (by omega) (fun q a b => h q (by omega))
  have g8 : Sh S 8 sp8 := sh_fr st_8 (by omega) (fun q a b => h q (by omega))
  have g15 : Sh S 15 sp6 := sh_fr st_15 (by omega) (fun q a b => h q (by omega))
  have g23 : Sh S 23 sp6 := sh_fr st_23 (by omega) (fun q a b => h q (by omega))
  have g33 : Sh S 33 sp4 := sh_fr st_33 (by omega) (fun q a b => h q (by omega))
  have g35 : Sh S 35 sp1 := sh_fr st_35 (by omega) (fun q a b => h q (by omega))
  have g41 : Sh S 41 sp1 := sh_fr st_41 (by omega) (fun q a b => h q (by omega))
  have g47 : Sh S 47 sp5 := sh_fr st_47 (by omega) (fun q a b => h q (by omega))
  have g53 : Sh S 53 sp7 := sh_fr st_53 (by omega) (fun q a b => h q (by omega))
  have g55 : Sh S 55 sp2 := sh_fr st_55 (by omega) (fun q a b => h q (by omega))
  have g64 : Sh S 64 sp0 := sh_fr st_64 (by omega) (fun q a b => h q (by omega))
  obtain ⟨w1, w2, w3, w4⟩ := fl_s
  obtain ⟨t1, t2, t3, t4, t5, t6, t7, t8⟩ := tr_s1
  have hT : TR S 1 tNew := TR_start g1 (by rw [h 1 (by omega)]; exact t1) (by rw [h 1 (by omega)]; exact t2) (by rw [h 1 (by omega)]; exact t3) (by rw [h 1 (by omega)]; exact t4) (by rw [h _ (by omega)]; exact t5) (by rw [h _ (by omega)]; exact t6) (by rw [h _ (by omega)]; exact t7) (by rw [h _ (by omega)]; exact t8)
  refine ⟨⟨hn, fOf (s9.2 0), by rw [h 0 (by omega)]; rfl, ⟨1, rfl, rfl⟩, ⟨8, rfl, rfl⟩, rfl, rfl, rfl, rfl, rfl, rfl, rfl, rfl, rfl, rfl, rfl, rfl, rfl, rfl⟩, ⟨fun i a hi ha => ?_, fun i j a b hi hj hij ha hb => ?_⟩, ⟨hn, ⟨fOf (s9.2 31), by rw [h 31 (by omega)]; rfl, rfl, rfl⟩, ⟨fun _ => none, by rw [h 32 (by omega)]; rfl, fun k hk => ?_⟩⟩, ⟨g33, by rw [h 33 (by omega)]; exact w1, fun k i hk => by simp [A0, aHo] at hk⟩, ⟨g35, by rw [h 35 (by omega)]; exact w2, fun n q hq => by simp [A0, aCn] at hq⟩, ⟨g53, by rw [h 53 (by omega)]; exact w3, fun k x hx => by simp [A0, aTx] at hx⟩, ⟨g64, by rw [h 64 (by omega)]; exact w4, fun k x hx => by simp [A0, aCh] at hx⟩, ⟨g23, g41, g47, g55, ⟨by omega, fun _ => 0, by rw [h 66 (by omega)]; rfl, fun _ => rfl⟩, ⟨by omega, fun _ => 0, by rw [h 67 (by omega)]; rfl, fun _ => rfl⟩⟩, ⟨fun t ht => ?_, rfl, fun k U hk => by simp [A0, aHi] at hk⟩, ⟨g15, ?_, ?_, ?_, ?_⟩, Or.inl ⟨rfl, rfl⟩, Nat.zero_le _⟩
  · rcases R0_some ha with ⟨-, rfl⟩ | ⟨-, rfl⟩
    · exact ⟨Or.inl rfl, g1⟩
    · exact ⟨Or.inr (Or.inl rfl), g8⟩
  · rcases R0_some ha with ⟨a1, rfl⟩ | ⟨a1, rfl⟩ <;> rcases R0_some hb with ⟨b1, rfl⟩ | ⟨b1, rfl⟩ <;> omega
  · show none = R0 (3 + k)
    unfold R0
    rw [if_neg (by omega), if_neg (by omega)]
  · rcases R0_some ht with ⟨-, rfl⟩ | ⟨a1, -⟩
    · exact hT
    · omega
  · rw [h 15 (by omega)]
    show fI (s9.2 15) 3 = nI (ordT tNew).length
    rw [sk_s2]; exact sk_s3.1
  · intro j c hj
    have hj' : (ordT tNew)[j]? = some c := hj
    rw [sk_s2] at hj'
    have hj2 := (List.getElem?_eq_some_iff.mp hj').1
    rw [List.length_singleton] at hj2
    have j0 : j = 0 := by omega
    subst j0
    have c0 : 0 = c := by simpa using hj'
    subst c0
    rw [h _ (by omega)]; exact sk_s3.2.1
  · intro c hc
    rw [h (15 + 1) (by omega), h (15 + 4) (by omega), h (15 + 5) (by omega)]
    exact sk_s1 c hc
  · intro c hc
    have c0 : c = 0 := of_decide_eq_true hc
    subst c0
    rw [h (15 + 6) (by omega), h (15 + 7) (by omega)]
    exact ⟨sk_s3.2.2.1, sk_s3.2.2.2⟩
theorem ok_A0 : aOk A0 := by
  refine ⟨good_new, (fun U h => by cases h), (fun U h => by cases h), Nat.zero_le _, Nat.zero_le _, (fun i h => by cases h), Nat.zero_le _, (fun x h => by cases h), (fun e h => by cases h), Nat.zero_le _, Nat.zero_le _, (fun c h => by cases h), rfl, (fun U h => by cases h), (fun U h => by cases h)⟩
theorem rb_s : fI (sB.2 68) 5 = 0 ∧ fI (sB.2 68) 6 = 0 ∧ fI (sB.2 68) 8 = 0 ∧ fI (sB.2 68) 10 = 0 ∧ fI (sB.2 68) 11 = -1 ∧ fI (sB.2 68) 13 = 0 ∧ fI (sB.2 68) 30 = 0 := by decide +kernel
theorem lo_P {S S1 : pS} {a c k : Nat} {v : Value} (e : oP S a c k v = some S1) : S1.1 = S.1 ∧ ∀ q, q < a → S1.2 q = S.2 q := by
  unfold oP at e
  obtain ⟨f, -, e2⟩ := obind e
  cases e2
  exact ⟨rfl, fun q hq => pu_ne _ _ _ (by omega)⟩
theorem lo_PA {S0 S S1 : pS} {a c k b : Nat} {e0 : pE} (e : oPA (oNew S e0) a c k b = some S1) (h : a < S.1 ∧ ∀ q, q < a → S.2 q = S0.2 q) : a < S1.1 ∧ ∀ q, q < a → S1.2 q = S0.2 q := by
  obtain ⟨h1, h2⟩ := lo_P e
  refine ⟨by rw [h1]; exact Nat.lt_succ_of_lt h.1, fun q hq => ?_⟩
  rw [h2 q hq]
  have : (oNew S e0).2 q = S.2 q := pu_ne S.2 S.1 e0 (by have := h.1; omega)
  rw [this]
  exact h.2 q hq
theorem lo_PI {S0 S S1 : pS} {a c k : Nat} {v : Int32} (e : oPI S a c k v = some S1) (h : a < S.1 ∧ ∀ q, q < a → S.2 q = S0.2 q) : a < S1.1 ∧ ∀ q, q < a → S1.2 q = S0.2 q := by
  obtain ⟨h1, h2⟩ := lo_P e
  exact ⟨by rw [h1]; exact h.1, fun q hq => (h2 q hq).trans (h.2 q hq)⟩
set_option maxRecDepth 100000 in
set_option maxHeartbeats 4000000 in
theorem low10 {S S' : pS} {a : Nat} (e : F_X10_init0 S a = some S') (ha : a < S.1) : ∀ q, q < a → S'.2 q = S.2 q := by
  unfold F_X10_init0 at e
  have l : a < S.1 ∧ ∀ q, q < a → S.2 q = S.2 q := ⟨ha, fun _ _ => rfl⟩
  obtain ⟨S1, e1, e⟩ := obind e
  replace l := lo_PA e1 l
  obtain ⟨S2, e2, e⟩ := obind e
  replace l := lo_PA e2 l
  obtain ⟨S3, e3, e⟩ := obind e
  replace l := lo_PA e3 l
  obtain ⟨S4, e4, e⟩ := obind e
  replace l := lo_PA e4 l
  obtain ⟨S5, e5, e⟩ := obind e
  replace l := lo_PA e5 l
  obtain ⟨S6, e6, e⟩ := obind e
  replace l := lo_PA e6 l
  obtain ⟨S7, e7, e⟩ := obind e
  replace l := lo_PI e7 l
  obtain ⟨S8, e8, e⟩ := obind e
  replace l := lo_PA e8 l
  obtain ⟨S9, e9, e⟩ := obind e
  replace l := lo_PA e9 l
  obtain ⟨S10, e10, e⟩ := obind e
  replace l := lo_PA e10 l
  obtain ⟨S11, e11, e⟩ := obind e
  replace l := lo_PA e11 l
  obtain ⟨S12, e12, e⟩ := obind e
  replace l := lo_PA e12 l
  obtain ⟨S13, e13, e⟩ := obind e
  replace l := lo_PA e13 l
  obtain ⟨S14, e14, e⟩ := obind e
  replace l := lo_PA e14 l
  obtain ⟨S15, e15, e⟩ := obind e
  replace l := lo_PA e15 l
  obtain ⟨S16, e16, e⟩ := obind e
  replace l := lo_PA e16 l
  obtain ⟨S17, e17, e⟩ := obind e
  replace l := lo_PA e17 l
  obtain ⟨S18, e18, e⟩ := obind e
  replace l := lo_PA e18 l
  obtain ⟨S19, e19, e⟩ := obind e
  replace l := lo_PA e19 l
  obtain ⟨S20, e20, e⟩ := obind e
  replace l := lo_PA e20 l
  obtain ⟨S21, e21, e⟩ := obind e
  replace l := lo_PA e21 l
  obtain ⟨S22, e22, e⟩ := obind e
  replace l := lo_PA e22 l
  obtain ⟨S23, e23, e⟩ := obind e
  replace l := lo_PA e23 l
  obtain ⟨S24, e24, e⟩ := obind e
  replace l := lo_PA e24 l
  obtain ⟨S25, e25, e⟩ := obind e
  replace l := lo_PA e25 l
  obtain ⟨S26, e26, e⟩ := obind e
  replace l := lo_PA e26 l
  obtain ⟨S27, e27, e⟩ := obind e
  replace l := lo_PA e27 l
  obtain ⟨S28, e28, e⟩ := obind e
  replace l := lo_PA e28 l
  obtain ⟨S29, e29, e⟩ := obind e
  replace l := lo_PA e29 l
  obtain ⟨S30, e30, e⟩ := obind e
  replace l := lo_PA e30 l
  obtain ⟨S31, e31, e⟩ := obind e
  replace l := lo_PA e31 l
  obtain ⟨S32, e32, e⟩ := obind e
  replace l := lo_PA e32 l
  obtain ⟨S33, e33, e⟩ := obind e
  replace l := lo_PA e33 l
  obtain ⟨S34, e34, e⟩ := obind e
  replace l := lo_PA e34 l
  obtain ⟨S35, e35, e⟩ := obind e
  replace l := lo_PA e35 l
  obtain ⟨S36, e36, e⟩ := obind e
  replace l := lo_PA e36 l
  obtain ⟨S37, e37, e⟩ := obind e
  replace l := lo_PA e37 l
  obtain ⟨S38, e38, e⟩ := obind e
  replace l := lo_PA e38 l
  obtain ⟨S39, e39, e⟩ := obind e
  replace l := lo_PA e39 l
  obtain ⟨S40, e40, e⟩ := obind e
  replace l := lo_PA e40 l
  obtain ⟨S41, e41, e⟩ := obind e
  replace l := lo_PA e41 l
  cases e
  exact l.2
theorem sB_low : ∀ q, q < 68 → sB.2 q = s9.2 q := by
  have e := sB_some
  unfold sBo at e
  have n9 := s9_n
  have := low10 e (show s9.1 < s9.1 + 1 by omega)
  intro q hq
  rw [this q (by omega)]
  exact pu_ne s9.2 s9.1 _ (by omega)
/-! the heap grows -/
theorem RS_grow {S S' : pS} {m : Nat} {A : As} (h : RS S m A) (hn : S.1 ≤ S'.1) (e : ∀ q, q < S.1 → S'.2 q = S.2 q) : RS S' m A := by
  have hsz : m + 41 ≤ S.1 := h.1.1.1
  have a : ∀ j, j < 41 → S'.2 (m + j) = S.2 (m + j) := fun j hj => e _ (by omega)
  have a0 : S'.2 m = S.2 m := e _ (by omega)
  refine ⟨⟨sh_fr h.1.1 hn (fun q q1 q2 => e q (by have : sp10.length = 41 := rfl; omega)), by rw [a 1 (by decide)]; exact h.1.2⟩, ?_⟩
  unfold RX
  rw [a0, a 2 (by decide), a 4 (by decide), a 5 (by decide), a 6 (by decide), a 7 (by decide), a 15 (by decide), a 16 (by decide), a 17 (by decide), a 18 (by decide), a 19 (by decide)]
  exact h.2
theorem CS_grow {S S' : pS} {A : As} (h : CS S A) (hn : S.1 ≤ S'.1) (e : ∀ q, q < S.1 → S'.2 q = S.2 q) : CS S' A := by
  obtain ⟨R, c1, c2, h⟩ := h
  have hcc : (c1 = 35 ∧ c2 = 41) ∨ (c1 = 41 ∧ c2 = 35) := h.2.2.2.2.2.2.2.2.2.2.1
  have h111 := h.1.1
  refine ⟨R, c1, c2, CSr_fr h hn (SC_fr h.2.2.2.2.2.2.2.1 hn (by omega) (fun q hq => e q (by omega))) (fun d hd => ?_) (fun q q1 _ => e q q1)⟩
  have hp := (h.2.1.1 1 d (by omega) hd).2
  have hsz := hp.1
  have l8 : sp8.length = 7 := rfl
  exact sh_fr hp hn (fun q q1 q2 => e q (by omega))
theorem RX_B : RX sB 68 A0 := by
  obtain ⟨w1, w2, w3, w4, w5, w6, w7⟩ := rb_s
  exact ⟨w1, (fun k U hk => by simp [A0, aHi] at hk), w2, (fun U hU => by cases hU), w3, (fun k i hk => by simp [A0, aHo] at hk), w4, (fun k x hk => by simp [A0, aTx] at hk), w5, w6, (fun k x hk => by simp [A0, aCh] at hk), w7, (fun c q hq => by simp [A0, aCn] at hq)⟩
/-- the heap behind the law's first lines -/
theorem start_all : ∃ S5, F_X9_init (oNew (0, h0) (.inr (9, dfX9))) 0 = some s9 ∧ F_X10_init (oNew s9 (.inr (10, dfX10))) s9.1 = some S5 ∧ S5.1 = 109 ∧ ∃ S7, S7 = oNew (oNew S5 (.inl (.long, 1, .inr (.inl fun _ => 0)))) (.inl (.double, 1, .inr (.inr (.inr (.inl fun _ => 0))))) ∧ S7.1 = 111 ∧ CSr S7 A0 R0 35 41 ∧ RS S7 68 A0 ∧ S7.2 109 = .inl (.long, 1, .inr (.inl fun _ => 0)) ∧ S7.2 110 = .inl (.double, 1, .inr (.inr (.inr (.inl fun _ => 0)))) := by
  have h9 := s9_n
  have hB := sB_n
  obtain ⟨S5, e5, m5, r5⟩ := r_empties st_68
  have n5 : S5.1 = 109 := by rw [m5.2.1]; exact hB
  refine ⟨S5, s9_some, ?_, n5, _, rfl, ?_, ?_, ?_, ?_, ?_⟩
  · rw [init10_eq, show F_X10_init0 (oNew s9 (.inr (10, dfX10))) s9.1 = some sB from sB_some, Option.bind_some, h9, e5]; rfl
  · show S5.1 + 1 + 1 = 111
    omega
  · refine CS_start (by show 111 ≤ S5.1 + 1 + 1; omega) (fun q hq => ?_)
    show pu (pu S5.2 S5.1 _) (S5.1 + 1) _ q = _
    rw [pu_ne _ _ _ (by omega), pu_ne _ _ _ (by omega), m5.2.2.1 q (by omega)]
    exact sB_low q hq
  · have hR : RS S5 68 A0 := ⟨⟨m5.1, r5⟩, RX_fr RX_B m5 (by decide) (by decide)⟩
    exact RS_grow hR (by show S5.1 ≤ S5.1 + 1 + 1; omega) (fun q hq => by
      show pu (pu S5.2 S5.1 _) (S5.1 + 1) _ q = _
      rw [pu_ne _ _ _ (by omega), pu_ne _ _ _ (by omega)])
  · show pu (pu S5.2 S5.1 _) (S5.1 + 1) _ 109 = _
    rw [pu_ne _ _ _ (by omega), show (109 : Nat) = S5.1 by omega, pu_at]
  · show pu (pu S5.2 S5.1 _) (S5.1 + 1) _ 110 = _
    rw [show (110 : Nat) = S5.1 + 1 by omega, pu_at]
end STB
