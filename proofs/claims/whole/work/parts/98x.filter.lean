/-! filters are read: both sides -/
section FIR
variable {S : pS} {tx : List Int32} {p c m : Nat}
def rdF (tx : List Int32) : Nat → Nat → List Cnd → Bool × Nat × List Cnd
  | 0, p, L => (decide (p = tx.length), p, L)
  | n + 1, p, L => if (rdC tx p).1 = true then (if n = 0 then (decide ((rdC tx p).2.1 = tx.length), (rdC tx p).2.1, L ++ [(rdC tx p).2.2]) else if nxt tx (rdC tx p).2.1 = 38 then rdF tx n ((rdC tx p).2.1 + 1) (L ++ [(rdC tx p).2.2]) else (decide ((rdC tx p).2.1 = tx.length), (rdC tx p).2.1, L ++ [(rdC tx p).2.2])) else (false, (rdC tx p).2.1, L)
theorem rdF_s (n p : Nat) (L : List Cnd) : rdF tx (n + 1) p L = if (rdC tx p).1 = true then (if n = 0 then (decide ((rdC tx p).2.1 = tx.length), (rdC tx p).2.1, L ++ [(rdC tx p).2.2]) else if nxt tx (rdC tx p).2.1 = 38 then rdF tx n ((rdC tx p).2.1 + 1) (L ++ [(rdC tx p).2.2]) else (decide ((rdC tx p).2.1 = tx.length), (rdC tx p).2.1, L ++ [(rdC tx p).2.2])) else (false, (rdC tx p).2.1, L) := rfl
theorem rdF_ok : ∀ (n p : Nat) (L : List Cnd), p ≤ tx.length → (∀ q, q ∈ L → cOk q) → (rdF tx n p L).2.1 ≤ tx.length ∧ (∀ q, q ∈ (rdF tx n p L).2.2 → cOk q) ∧ (rdF tx n p L).2.2.length ≤ L.length + n := by
  intro n
  induction n with
  | zero => intro p L hp hL; exact ⟨hp, hL, Nat.le_refl _⟩
  | succ n ih =>
    intro p L hp hL
    rw [rdF_s]
    obtain ⟨h1, h2⟩ := rdC_ok (tx := tx) hp
    cases c : (rdC tx p).1
    · rw [if_neg (by decide)]
      exact ⟨h1, hL, by show L.length ≤ _; omega⟩
    · rw [if_pos rfl]
      have hL2 : ∀ q, q ∈ L ++ [(rdC tx p).2.2] → cOk q := fun q hq => by
        rcases List.mem_append.mp hq with z | z
        · exact hL q z
        · rw [List.mem_singleton] at z; rw [z]; exact (h2 c).1
      have hlen : (L ++ [(rdC tx p).2.2]).length = L.length + 1 := by rw [List.length_append]; rfl
      by_cases n0 : n = 0
      · rw [if_pos n0]
        exact ⟨h1, hL2, by show (L ++ [_]).length ≤ _; omega⟩
      · rw [if_neg n0]
        by_cases a : nxt tx (rdC tx p).2.1 = 38
        · rw [if_pos a]
          obtain ⟨g1, g2, g3⟩ := ih _ _ (nxt_in a (by decide)) hL2
          exact ⟨g1, g2, by omega⟩
        · rw [if_neg a]
          exact ⟨h1, hL2, by show (L ++ [_]).length ≤ _; omega⟩
/-! the class -/
def Cg (S S' : pS) (c : Nat) : Prop := S'.1 = S.1 ∧ (∀ q, q ≠ 53 → ¬ (c ≤ q ∧ q < c + 6) → S'.2 q = S.2 q) ∧ Sh S' c sp1
theorem Cg_trans {S1 S2 : pS} (h : Cg S S1 c) (h2 : Cg S1 S2 c) : Cg S S2 c := ⟨h2.1.trans h.1, fun q a b => (h2.2.1 q a b).trans (h.2.1 q a b), h2.2.2⟩
theorem Cg_Cf {S1 : pS} {n : Nat} (h : Cf S S1 c n) : Cg S S1 c := ⟨h.1, fun q a b => h.2.1 q a (by omega), h.2.2.1⟩
theorem Cg_53 {S1 : pS} (hs : Sh S c sp1) (hc : c + 6 ≤ 53) (h : M53 S S1) : Cg S S1 c := ⟨h.1, fun q a _ => h.2.1 q a, h.2.2 c sp1 hs (by decide) (by omega)⟩
def Rws (S : pS) (c : Nat) (L : List Cnd) : Prop := ∀ (j : Nat) q, L[j]? = some q → rowC S c j q
theorem rowC_fr {S1 : pS} {j : Nat} {q : Cnd} (h : rowC S c j q) (e : ∀ k, 1 ≤ k → k < 6 → S1.2 (c + k) = S.2 (c + k)) : rowC S1 c j q := by
  unfold rowC
  rw [e 1 (by omega) (by omega), e 2 (by omega) (by omega), e 3 (by omega) (by omega), e 4 (by omega) (by omega), e 5 (by omega) (by omega)]
  exact h
theorem CD_of {L : List Cnd} (hs : Sh S c sp1) (h5 : fI (S.2 c) 5 = nI L.length) (h : Rws S c L) : CD S c L := ⟨hs, h5, fun n q hq => h n q hq⟩
theorem c_rdF (ht : txOk tx) (hc : c + 6 ≤ 53) : ∀ (n p : Nat) (L : List Cnd) (S : pS), L.length + (n + 1) = 5 → (∀ q, q ∈ L → cOk q) → p ≤ tx.length → Sh S c sp1 → XP S tx p → Rws S c L → ∃ s' k S', k ≤ 6 - L.length ∧ Run (F_X1_read_13 c 53) ((1 : Int32), nI L.length, S) s' k ∧ Cg S S' c ∧ XP S' tx (rdF tx (n + 1) p L).2.1 ∧
    ((F_X1_read_13 c 53 s' = some (.inr (.inl S')) ∧ (rdF tx (n + 1) p L).1 = false) ∨ (F_X1_read_13 c 53 s' = some (.inr (.inr S')) ∧ (rdF tx (n + 1) p L).1 = decide ((rdF tx (n + 1) p L).2.1 = tx.length) ∧ CD S' c (rdF tx (n + 1) p L).2.2)) := by
  intro n
  induction n with
  | zero =>
    intro p L S hl hok hp hs hx hr
    have hl4 : L.length = 4 := by omega
    obtain ⟨S1, e1, x1, f1, w1⟩ := c_cond hs hc hx ht hp (show L.length < 5 by omega)
    rw [rdF_s]
    have e0 : F_X1_read_13 c 53 ((1 : Int32), nI L.length, S) = (F_X1_readCondition S c 53 (nI L.length)).bind fun q5 => if ¬ q5.1 = 0 then ((oPI q5.2 c 1 5 (nI L.length + (1 : Int32))).bind fun S7 => (oGI S7 c 1 5).bind fun x9 => if (5 : Int32) ≤ x9 then (some (.inl ((0 : Int32), nI L.length + (1 : Int32), S7))) else ((F_X7_take S7 53 (38 : Int32)).bind fun q11 => if q11.1 = 0 then (some (.inl ((0 : Int32), nI L.length + (1 : Int32), q11.2))) else (some (.inl ((1 : Int32), nI L.length + (1 : Int32), q11.2))))) else (some (.inr (.inl q5.2))) := by
      unfold F_X1_read_13
      dsimp only
      rw [if_neg (by decide), if_neg (ge5 (show L.length < 5 by omega))]
    rw [e1, Option.bind_some] at e0
    dsimp only at e0
    cases ok : (rdC tx p).1
    · rw [ok] at e0
      rw [if_neg (show ¬ ¬ (if false = true then (1 : Int32) else 0) = 0 from fun z => z rfl)] at e0
      rw [if_neg (by decide)]
      exact ⟨_, 0, S1, by omega, Run_0, Cg_Cf f1, x1, Or.inl ⟨e0, rfl⟩⟩
    · rw [ok] at e0
      rw [if_pos (show ¬ (if true = true then (1 : Int32) else 0) = 0 by decide), nI_1, s1_p5 f1.2.2.1, Option.bind_some] at e0
      have k2 := s1_k5 f1.2.2.1 f1.2.2.1 (nI (L.length + 1))
      have v2 := s1_v5 f1.2.2.1 (nI (L.length + 1))
      have o2 : ∀ q, q ≠ c → (wF S1 c 5 (.int (nI (L.length + 1)))).2 q = S1.2 q := fun q hq => wF_ne _ _ _ hq
      have n2 : (wF S1 c 5 (.int (nI (L.length + 1)))).1 = S1.1 := rfl
      generalize wF S1 c 5 (.int (nI (L.length + 1))) = S2 at *
      rw [s1_g5 k2, Option.bind_some, v2, if_pos (show (5 : Int32) ≤ nI (L.length + 1) by rw [hl4]; decide)] at e0
      have g2 : Cg S1 S2 c := ⟨n2, fun q _ b => o2 q (by omega), k2⟩
      have x2 : XP S2 tx (rdC tx p).2.1 := ⟨XT_fr x1.1 (by omega) (fun q q1 q2 => o2 q (by omega)), by rw [o2 53 (by omega)]; exact x1.2⟩
      have ex : F_X1_read_13 c 53 ((0 : Int32), nI (L.length + 1), S2) = some (.inr (.inr S2)) := by
        unfold F_X1_read_13
        dsimp only
        rw [if_pos rfl]
      rw [if_pos rfl, if_pos rfl]
      refine ⟨_, 1, S2, by omega, Run_1 e0, Cg_trans (Cg_Cf f1) g2, x2, Or.inr ⟨ex, rfl, CD_of k2 (by rw [v2, List.length_append]; rfl) (fun j q hj => ?_)⟩⟩
      refine rowC_fr (S := S1) ?_ (fun k a b => o2 _ (by omega))
      have hj2 := (List.getElem?_eq_some_iff.mp hj).1
      rw [List.length_append, List.length_singleton] at hj2
      by_cases z : j = L.length
      · rw [z] at hj ⊢
        rw [List.getElem?_append_right (Nat.le_refl _), Nat.sub_self] at hj
        have hq : (rdC tx p).2.2 = q := by simpa using hj
        rw [← hq]
        exact w1 ok
      · rw [List.getElem?_append_left (by omega)] at hj
        exact Cf_row f1 (by omega) (hr j q hj) (hok q (List.mem_of_getElem? hj)).2.1
  | succ n ih =>
    intro p L S hl hok hp hs hx hr
    have hl4 : L.length < 4 := by omega
    obtain ⟨S1, e1, x1, f1, w1⟩ := c_cond hs hc hx ht hp (show L.length < 5 by omega)
    obtain ⟨h1, h2⟩ := rdC_ok (tx := tx) hp
    rw [rdF_s]
    have e0 : F_X1_read_13 c 53 ((1 : Int32), nI L.length, S) = (F_X1_readCondition S c 53 (nI L.length)).bind fun q5 => if ¬ q5.1 = 0 then ((oPI q5.2 c 1 5 (nI L.length + (1 : Int32))).bind fun S7 => (oGI S7 c 1 5).bind fun x9 => if (5 : Int32) ≤ x9 then (some (.inl ((0 : Int32), nI L.length + (1 : Int32), S7))) else ((F_X7_take S7 53 (38 : Int32)).bind fun q11 => if q11.1 = 0 then (some (.inl ((0 : Int32), nI L.length + (1 : Int32), q11.2))) else (some (.inl ((1 : Int32), nI L.length + (1 : Int32), q11.2))))) else (some (.inr (.inl q5.2))) := by
      unfold F_X1_read_13
      dsimp only
      rw [if_neg (by decide), if_neg (ge5 (show L.length < 5 by omega))]
    rw [e1, Option.bind_some] at e0
    dsimp only at e0
    cases ok : (rdC tx p).1
    · rw [ok] at e0
      rw [if_neg (show ¬ ¬ (if false = true then (1 : Int32) else 0) = 0 from fun z => z rfl)] at e0
      rw [if_neg (by decide)]
      exact ⟨_, 0, S1, by omega, Run_0, Cg_Cf f1, x1, Or.inl ⟨e0, rfl⟩⟩
    · rw [ok] at e0
      rw [if_pos (show ¬ (if true = true then (1 : Int32) else 0) = 0 by decide), nI_1, s1_p5 f1.2.2.1, Option.bind_some] at e0
      have k2 := s1_k5 f1.2.2.1 f1.2.2.1 (nI (L.length + 1))
      have v2 := s1_v5 f1.2.2.1 (nI (L.length + 1))
      have o2 : ∀ q, q ≠ c → (wF S1 c 5 (.int (nI (L.length + 1)))).2 q = S1.2 q := fun q hq => wF_ne _ _ _ hq
      have n2 : (wF S1 c 5 (.int (nI (L.length + 1)))).1 = S1.1 := rfl
      generalize wF S1 c 5 (.int (nI (L.length + 1))) = S2 at *
      have x2 : XP S2 tx (rdC tx p).2.1 := ⟨XT_fr x1.1 (by omega) (fun q q1 q2 => o2 q (by omega)), by rw [o2 53 (by omega)]; exact x1.2⟩
      obtain ⟨S3, e3, x3, m3, p3⟩ := c_take x2 ht h1 38 (by decide)
      have g2 : Cg S1 S2 c := ⟨n2, fun q _ b => o2 q (by omega), k2⟩
      have g3 := Cg_53 k2 hc m3
      have gg := Cg_trans (Cg_Cf f1) (Cg_trans g2 g3)
      rw [s1_g5 k2, Option.bind_some, v2, if_neg (ge5 (show L.length + 1 < 5 by omega)), e3, Option.bind_some] at e0
      have rws3 : Rws S3 c (L ++ [(rdC tx p).2.2]) := by
        intro j q hj
        refine rowC_fr (S := S1) ?_ (fun k a b => by rw [m3.2.1 _ (by omega)]; exact o2 _ (by omega))
        have hj2 := (List.getElem?_eq_some_iff.mp hj).1
        rw [List.length_append, List.length_singleton] at hj2
        by_cases z : j = L.length
        · rw [z] at hj ⊢
          rw [List.getElem?_append_right (Nat.le_refl _), Nat.sub_self] at hj
          have hq : (rdC tx p).2.2 = q := by simpa using hj
          rw [← hq]
          exact w1 ok
        · rw [List.getElem?_append_left (by omega)] at hj
          exact Cf_row f1 (by omega) (hr j q hj) (hok q (List.mem_of_getElem? hj)).2.1
      have hlen : (L ++ [(rdC tx p).2.2]).length = L.length + 1 := by rw [List.length_append]; rfl
      rw [if_pos rfl, if_neg (by omega)]
      by_cases a : nxt tx (rdC tx p).2.1 = 38
      · rw [if_pos a] at x3
        dsimp only at e0
        rw [itp1 a] at e0
        rw [if_pos a]
        obtain ⟨s', k, S', k1, run, cg, xx, rest⟩ := ih _ (L ++ [(rdC tx p).2.2]) S3 (by omega) (fun q hq => by
          rcases List.mem_append.mp hq with z | z
          · exact hok q z
          · rw [List.mem_singleton] at z; rw [z]; exact (h2 ok).1) (p3 a) gg.2.2 x3 rws3
        rw [hlen] at run k1
        exact ⟨s', 1 + k, S', by omega, Run_t (Run_1 e0) run, Cg_trans gg cg, xx, rest⟩
      · rw [if_neg a] at x3
        dsimp only at e0
        rw [itp0 a] at e0
        rw [if_neg a]
        have ex : F_X1_read_13 c 53 ((0 : Int32), nI (L.length + 1), S3) = some (.inr (.inr S3)) := by
          unfold F_X1_read_13
          dsimp only
          rw [if_pos rfl]
        refine ⟨_, 1, S3, by omega, Run_1 e0, gg, x3, Or.inr ⟨ex, rfl, CD_of gg.2.2 ?_ rws3⟩⟩
        rw [m3.2.1 c (by omega), v2, hlen]
theorem c_read (ht : txOk tx) (hc : c + 6 ≤ 53) (hs : Sh S c sp1) (h : XT S tx) : ∃ S', F_X1_read S c 53 = some (if (rdF tx 5 0 []).1 = true then 1 else 0, S') ∧ XP S' tx (rdF tx 5 0 []).2.1 ∧ Cg S S' c ∧ ((rdF tx 5 0 []).1 = true → CD S' c (rdF tx 5 0 []).2.2) := by
  unfold F_X1_read
  have hl := ht.1
  obtain ⟨S1, e1, x1, m1⟩ := c_goto2 h 0
  have es : F_X7_start S 53 = some S1 := by
    unfold F_X7_start
    rw [s7_oF h.1, show oPI S 53 7 2 (0 : Int32) = _ from e1, Option.bind_some]
  have g1 := Cg_53 hs hc m1
  rw [s1_oF hs, es, Option.bind_some, s1_p5 g1.2.2, Option.bind_some]
  have k2 := s1_k5 g1.2.2 g1.2.2 0
  have o2 : ∀ q, q ≠ c → (wF S1 c 5 (.int 0)).2 q = S1.2 q := fun q hq => wF_ne _ _ _ hq
  have n2 : (wF S1 c 5 (.int 0)).1 = S1.1 := rfl
  generalize wF S1 c 5 (.int 0) = S2 at *
  have g2 : Cg S1 S2 c := ⟨n2, fun q _ b => o2 q (by omega), k2⟩
  have x2 : XP S2 tx 0 := ⟨XT_fr x1.1 (by omega) (fun q q1 q2 => o2 q (by omega)), by rw [o2 53 (by omega)]; exact x1.2⟩
  obtain ⟨s', k, S', k1, run, cg, xx, rest⟩ := c_rdF ht hc 4 0 [] S2 rfl (fun q hq => by cases hq) (Nat.zero_le _) k2 x2 (fun j q hq => by simp at hq)
  have e5 : rdF tx (4 + 1) 0 [] = rdF tx 5 0 [] := rfl
  rw [e5] at xx rest
  have hple := (rdF_ok (tx := tx) 5 0 [] (Nat.zero_le _) (fun q hq => by cases hq)).1
  have gg := Cg_trans g1 (Cg_trans g2 cg)
  have k1' : k ≤ 6 := k1
  rcases rest with ⟨ex, er⟩ | ⟨ex, er, cd⟩
  · have ei : iter (F_X1_read_13 c 53) fu ((1 : Int32), (0 : Int32), S2) = _ := Run_end run (by omega) ex
    rw [ei, Option.bind_some, er]
    exact ⟨S', rfl, xx, gg, fun z => by cases z⟩
  · have ei : iter (F_X1_read_13 c 53) fu ((1 : Int32), (0 : Int32), S2) = _ := Run_end run (by omega) ex
    rw [ei, Option.bind_some]
    simp only [Sum.elim_inr]
    unfold F_X1_read_69 F_X7_isAtEnd
    rw [s7_oF xx.1.1, s7_g2 xx.1.1, Option.bind_some, s7_g1 xx.1.1, Option.bind_some, xx.2, xx.1.2.1]
    refine ⟨S', ?_, xx, gg, fun _ => cd⟩
    rw [er]
    by_cases z : (rdF tx 5 0 []).2.1 = tx.length
    · rw [if_neg (nI_nlt (by omega) (by omega)), Option.bind_some, decide_eq_true z]; rfl
    · rw [if_pos (nI_lt (by omega) (by omega)), Option.bind_some, decide_eq_false z]; rfl
/-! the reference -/
def RwN (S : pS) (m : Nat) (L : List Cnd) : Prop := ∀ (j : Nat) q, L[j]? = some q → rowN S m j q
theorem RwN_M {S1 : pS} {ks : List Nat} {L : List Cnd} (h : RwN S m L) (hM : MR S S1 m [] ks) : RwN S1 m L := fun j q hj => by
  have a : ∀ j, j ≠ 0 → S1.2 (m + j) = S.2 (m + j) := fun j hj => hM.2.2.2.1 j (by simp) hj
  unfold rowN
  rw [a 20 (by decide), a 21 (by decide), a 22 (by decide), a 23 (by decide), a 24 (by decide)]
  exact h j q hj
theorem RwN_app {S1 : pS} {L : List Cnd} {q : Cnd} (h : RwN S m L) (f : Rf S S1 m L.length) (hok : ∀ q, q ∈ L → cOk q) (hq : rowN S1 m L.length q) : RwN S1 m (L ++ [q]) := by
  intro j q' hj
  have hj2 := (List.getElem?_eq_some_iff.mp hj).1
  rw [List.length_append, List.length_singleton] at hj2
  by_cases z : j = L.length
  · rw [z] at hj ⊢
    rw [List.getElem?_append_right (Nat.le_refl _), Nat.sub_self] at hj
    have hq' : q = q' := by simpa using hj
    rw [← hq']; exact hq
  · rw [List.getElem?_append_left (by omega)] at hj
    exact Rf_row f (by omega) (h j q' hj) (hok q' (List.mem_of_getElem? hj)).2.1
abbrev MF (S S' : pS) (m : Nat) : Prop := MR S S' m [20, 21, 22, 23, 24] [21, 23, 36]
/-- behind a condition -/
def rfE (S1 : pS) (m : Nat) (tx : List Int32) (r : Bool × Nat × List Cnd) (k0 : Nat) : Prop := ∃ s' k S', k ≤ k0 ∧ Run (F_X10_readsFilter_9 m) S1 s' k ∧ F_X10_readsFilter_9 m s' = some (.inr S') ∧ MF S1 S' m ∧ RP S' m tx r.2.1 r.1 ∧ (r.1 = true → RwN S' m r.2.2 ∧ fI (S'.2 m) 36 = nI r.2.2.length)
theorem rf_stop {p : Nat} (hs : Sh S m sp10) (h : RP S m tx p true) (ht : txOk tx) (hp : p < tx.length) (h5 : (5 : Int32) ≤ fI (S.2 m) 36 ∨ nxt tx p ≠ 38) (L : List Cnd) (k0 : Nat) (hk : 1 ≤ k0) : rfE S m tx (false, p, L) k0 := by
  have hl := ht.1
  obtain ⟨S1, e1, m1, r1⟩ := RP_g hs h false
  have e49 : F_X10_readsFilter_49 m S m = some (.inl S1) := by
    unfold F_X10_readsFilter_49 F_X10_readsFilter_50
    rw [show oPZ S m 10 23 (0 : Int32) = some S1 from e1, Option.bind_some, s10_g23 m1.1, Option.bind_some, r1.2.2.1, ite0 rfl]
  have st : F_X10_readsFilter_9 m S = some (.inl S1) := by
    unfold F_X10_readsFilter_9
    rw [s10_g23 hs, Option.bind_some, h.2.2.1, ite1 rfl, s10_g21 hs, Option.bind_some, s10_g22 hs, Option.bind_some, h.1, h.2.1, if_neg (nI_ge hp (by omega)), s10_g36 hs, Option.bind_some]
    by_cases c : (5 : Int32) ≤ fI (S.2 m) 36
    · rw [if_pos c, e49]
    · rw [if_neg c, r_here hs h ht (by omega), Option.bind_some]
      rcases h5 with z | z
      · exact absurd z c
      · rw [if_pos (show ¬ here tx p = 38 from fun w => z ((here_eq ht p (by decide)).mp w)), e49]
  have ex : F_X10_readsFilter_9 m S1 = some (.inr S1) := by
    unfold F_X10_readsFilter_9
    rw [s10_g23 m1.1, Option.bind_some, r1.2.2.1, ite0 rfl]
  exact ⟨S1, 1, S1, hk, Run_1 st, ex, MR_sub m1 (by simp) (by decide), r1, fun z => by cases z⟩
theorem rf_bad {p : Nat} (hs : Sh S m sp10) (h : RP S m tx p false) (L : List Cnd) (k0 : Nat) : rfE S m tx (false, p, L) k0 := by
  have ex : F_X10_readsFilter_9 m S = some (.inr S) := by
    unfold F_X10_readsFilter_9
    rw [s10_g23 hs, Option.bind_some, h.2.2.1, ite0 rfl]
  exact ⟨S, 0, S, Nat.zero_le _, Run_0, ex, MR_refl hs _ _, h, fun z => by cases z⟩
theorem rf_end (hs : Sh S m sp10) (ht : txOk tx) (h : RP S m tx tx.length true) {L : List Cnd} (hr : RwN S m L) (h36 : fI (S.2 m) 36 = nI L.length) (k0 : Nat) : rfE S m tx (true, tx.length, L) k0 := by
  have hl := ht.1
  have ex : F_X10_readsFilter_9 m S = some (.inr S) := by
    unfold F_X10_readsFilter_9
    rw [s10_g23 hs, Option.bind_some, h.2.2.1, ite1 rfl, s10_g21 hs, Option.bind_some, s10_g22 hs, Option.bind_some, h.1, h.2.1, if_pos (Int32.le_refl _)]
  exact ⟨S, 0, S, Nat.zero_le _, Run_0, ex, MR_refl hs _ _, h, fun _ => ⟨hr, h36⟩⟩
theorem r_rdF (ht : txOk tx) : ∀ (n p : Nat) (L : List Cnd) (S : pS), L.length + (n + 1) = 5 → (∀ q, q ∈ L → cOk q) → p ≤ tx.length → Sh S m sp10 → RP S m tx p true → RwN S m L → fI (S.2 m) 36 = nI L.length → ∃ S1, F_X10_readsCondition S m = some S1 ∧ MF S S1 m ∧ rfE S1 m tx (rdF tx (n + 1) p L) (n + 1) := by
  have hl80 := ht.1
  intro n
  induction n with
  | zero =>
    intro p L S hl hok hp hs hx hr h36
    obtain ⟨S1, e1, f1, v1, g, r1, b1, b2, b3⟩ := r_cond hs hx ht hp h36 (show L.length < 5 by omega)
    obtain ⟨h1, h2⟩ := rdC_ok (tx := tx) hp
    refine ⟨S1, e1, f1.1, ?_⟩
    rw [rdF_s]
    cases ok : (rdC tx p).1
    · rw [b1 ok] at r1
      rw [if_neg (by decide)]
      exact rf_bad f1.1.1 r1 _ _
    · rw [if_pos rfl, if_pos rfl]
      rcases b2 ok with z | ⟨z, w⟩
      · rw [z] at r1
        by_cases y : (rdC tx p).2.1 = tx.length
        · rw [decide_eq_true y, y]
          rw [y] at r1
          exact rf_end f1.1.1 ht r1 (RwN_app hr f1 hok (b3 z)) (by rw [v1, List.length_append]; rfl) _
        · rw [decide_eq_false y]
          exact rf_stop f1.1.1 r1 ht (by omega) (Or.inl (by rw [v1, show L.length = 4 by omega]; decide)) _ _ (by omega)
      · rw [z] at r1
        have y : ¬ (rdC tx p).2.1 = tx.length := fun y => by rw [y, nxt_ge (Nat.le_refl _)] at w; exact absurd w (by decide)
        rw [decide_eq_false y]
        exact rf_bad f1.1.1 r1 _ _
  | succ n ih =>
    intro p L S hl hok hp hs hx hr h36
    obtain ⟨S1, e1, f1, v1, g, r1, b1, b2, b3⟩ := r_cond hs hx ht hp h36 (show L.length < 5 by omega)
    obtain ⟨h1, h2⟩ := rdC_ok (tx := tx) hp
    refine ⟨S1, e1, f1.1, ?_⟩
    rw [rdF_s]
    have hlen : (L ++ [(rdC tx p).2.2]).length = L.length + 1 := by rw [List.length_append]; rfl
    cases ok : (rdC tx p).1
    · rw [b1 ok] at r1
      rw [if_neg (by decide)]
      exact rf_bad f1.1.1 r1 _ _
    · rw [if_pos rfl, if_neg (by omega)]
      rcases b2 ok with z | ⟨z, w⟩
      · rw [z] at r1
        by_cases a : nxt tx (rdC tx p).2.1 = 38
        · have hin := nxt_in a (by decide)
          rw [if_pos a]
          -- the sign is taken, the next condition is read
          obtain ⟨S2, e2, m2, r2⟩ := RP_g f1.1.1 r1 true
          obtain ⟨S3, e3, m3, r3⟩ := RP_p m2.1 r2 ((rdC tx p).2.1 + 1)
          have m13 : MR S1 S3 m [] [21, 23] := MR_trans (MR_sub m2 (by simp) (by decide)) (MR_sub m3 (by simp) (by decide))
          obtain ⟨S4, e4, m4, s', k, S', k1, run, ex, mm, rr, rest⟩ := ih ((rdC tx p).2.1 + 1) (L ++ [(rdC tx p).2.2]) S3 (by omega) (fun q hq => by
            rcases List.mem_append.mp hq with z | z
            · exact hok q z
            · rw [List.mem_singleton] at z; rw [z]; exact (h2 ok).1) hin m3.1 r3 (RwN_M (RwN_app hr f1 hok (b3 z)) m13) (by rw [m13.2.2.2.2 36 (by decide), v1, hlen])
          have st : F_X10_readsFilter_9 m S1 = some (.inl S4) := by
            unfold F_X10_readsFilter_9
            rw [s10_g23 f1.1.1, Option.bind_some, r1.2.2.1, ite1 rfl, s10_g21 f1.1.1, Option.bind_some, s10_g22 f1.1.1, Option.bind_some, r1.1, r1.2.1, if_neg (nI_ge (show (rdC tx p).2.1 < tx.length by omega) (by omega)), s10_g36 f1.1.1, Option.bind_some, v1, if_neg (ge5 (show L.length + 1 < 5 by omega)), r_here f1.1.1 r1 ht (by omega), Option.bind_some, if_neg (show ¬ ¬ here tx (rdC tx p).2.1 = 38 from fun w => w ((here_eq ht _ (by decide)).mpr a))]
            unfold F_X10_readsFilter_50
            rw [show oPZ S1 m 10 23 (1 : Int32) = some S2 from e2, Option.bind_some, s10_g23 m2.1, Option.bind_some, r2.2.2.1, ite1 rfl, s10_g21 m2.1, Option.bind_some, r2.1, nI_1, e3, Option.bind_some, e4, Option.bind_some]
          exact ⟨s', 1 + k, S', by omega, Run_t (Run_1 st) run, ex, MR_trans (MR_sub m13 (by simp) (by decide)) (MR_trans m4 mm), rr, rest⟩
        · rw [if_neg a]
          by_cases y : (rdC tx p).2.1 = tx.length
          · rw [decide_eq_true y, y]
            rw [y] at r1
            exact rf_end f1.1.1 ht r1 (RwN_app hr f1 hok (b3 z)) (by rw [v1, hlen]) _
          · rw [decide_eq_false y]
            exact rf_stop f1.1.1 r1 ht (by omega) (Or.inr a) _ _ (by omega)
      · rw [z] at r1
        have y : ¬ (rdC tx p).2.1 = tx.length := fun y => by rw [y, nxt_ge (Nat.le_refl _)] at w; exact absurd w (by decide)
        have a : ¬ nxt tx (rdC tx p).2.1 = 38 := fun a => by rw [a] at w; exact absurd w (by decide)
        rw [if_neg a, decide_eq_false y]
        exact rf_bad f1.1.1 r1 _ _
theorem r_readsFilter (hs : Sh S m sp10) (h : RP S m tx 0 true) (ht : txOk tx) : ∃ S', F_X10_readsFilter S m = some (if (rdF tx 5 0 []).1 = true then 1 else 0, S') ∧ MF S S' m ∧ RP S' m tx (rdF tx 5 0 []).2.1 (rdF tx 5 0 []).1 ∧ ((rdF tx 5 0 []).1 = true → RwN S' m (rdF tx 5 0 []).2.2 ∧ fI (S'.2 m) 36 = nI (rdF tx 5 0 []).2.2.length) := by
  unfold F_X10_readsFilter
  rw [s10_oF hs, s10_p36 hs, Option.bind_some]
  have k1 := s10_k36 hs hs 0
  have m1 := r_setF hs 0 k1
  have v1 := s10_v36 hs 0
  generalize wF S m 36 (.int 0) = S1 at *
  obtain ⟨S2, e2, m2, s', k, S', k1', run, ex, mm, rr, rest⟩ := r_rdF (m := m) ht 4 0 [] S1 rfl (fun q hq => by cases hq) (Nat.zero_le _) k1 (RP_fr h m1 (by simp) (by decide)) (fun j q hq => by simp at hq) v1
  have ei : iter (F_X10_readsFilter_9 m) fu S2 = some S' := Run_end run (by omega) ex
  rw [e2, Option.bind_some, ei, Option.bind_some]
  unfold F_X10_readsFilter_77
  rw [s10_g23 mm.1, Option.bind_some, rr.2.2.1, oZ_b, Option.bind_some]
  exact ⟨S', rfl, MR_trans (MR_sub m1 (by simp) (by decide)) (MR_trans m2 mm), rr, rest⟩
end FIR
