/-! the class's calls -/
/-- what a call of the class comes to: the answer, or an exception by the name of its code -/
def cC (S : pS) (nm : Int32 → String) (o : Option ((Int32 × pS) ⊕ (String × pS))) (r : Rs) : Prop := ∃ S', S.1 ≤ S'.1 ∧ CS S' r.1 ∧ (∀ q, 68 ≤ q → q < 111 → S'.2 q = S.2 q) ∧ o = some (if r.2.1 = 0 then .inl (r.2.2, S') else .inr (nm r.2.1, S'))
def nNSE : String := "java/util/NoSuchElementException"
def nIOO : String := "java/lang/IndexOutOfBoundsException"
def nIAE : String := "java/lang/IllegalArgumentException"
def nISE : String := "java/lang/IllegalStateException"
def nUOE : String := "java/lang/UnsupportedOperationException"
/-- the cells of the reference and of the law stay -/
def Fm (S S' : pS) : Prop := S.1 ≤ S'.1 ∧ ∀ q, 68 ≤ q → q < 111 → S'.2 q = S.2 q
theorem Fm_refl (S : pS) : Fm S S := ⟨Nat.le_refl _, fun _ _ _ => rfl⟩
theorem Fm_trans {S S1 S2 : pS} (h : Fm S S1) (h2 : Fm S1 S2) : Fm S S2 := ⟨Nat.le_trans h.1 h2.1, fun q q1 q2 => (h2.2 q q1 q2).trans (h.2 q q1 q2)⟩
section CCA
variable {S : pS} {R : Nat → Option Nat} {c1 c2 : Nat} {T : Tr} {A : As} {nm : Int32 → String}
theorem cC_ok {S1 : pS} {A' : As} {v : Int32} (hf : Fm S S1) (h : CS S1 A') : cC S nm (some (.inl (v, S1))) (A', 0, v) := ⟨S1, hf.1, h, hf.2, rfl⟩
theorem cC_x {S1 : pS} {A' : As} {k v : Int32} {E : String} (hf : Fm S S1) (h : CS S1 A') (hk : k ≠ 0) (e : nm k = E) : cC S nm (some (.inr (E, S1))) (A', k, v) := ⟨S1, hf.1, h, hf.2, by rw [if_neg hk, e]⟩
theorem cs_len (h : CSr S A R c1 c2) : (aHi A).length ≤ 8 := h.2.2.2.2.2.2.2.2.2.2.2
theorem cs_t (h : CSr S A R c1 c2) : ∃ t, R 0 = some t := by
  obtain ⟨-, f, -, ⟨t, ht, -⟩, -⟩ := h.1
  exact ⟨t, ht⟩
theorem cs_d (h : CSr S A R c1 c2) : ∃ d, R 1 = some d := by
  obtain ⟨-, f, -, -, ⟨t, ht, -⟩, -⟩ := h.1
  exact ⟨t, ht⟩
theorem rolA_hi {n a : Nat} (h : (aHi A).length = n) (hn : n ≤ 8) (hT : ∀ (k : Nat) U, (aHi A)[k]? = some U → ∃ b, R (3 + k) = some b ∧ TR S b U) {t : Nat} (ht : R 0 = some t) (hTt : TR S t (aT A)) : ∀ (k : Nat) U, (pushH (aHi A) (aT A))[k]? = some U → ∃ b, rolA R n a (3 + k) = some b ∧ TR S b U := by
  intro k U hk
  unfold pushH at hk
  by_cases c : n = 8
  · rw [if_pos (h.trans c)] at hk
    have hl : (aHi A).tail.length = 7 := by rw [List.length_tail, h, c]
    unfold rolA
    rw [if_neg (by omega), if_neg (by omega), if_pos c]
    by_cases d : k < 7
    · rw [List.getElem?_append_left (by omega), List.getElem?_tail] at hk
      obtain ⟨b, b1, b2⟩ := hT (k + 1) U hk
      exact ⟨b, by rw [if_neg (by omega), if_pos (by omega)]; exact b1, b2⟩
    · have hk2 := (List.getElem?_eq_some_iff.mp hk).1
      rw [List.length_append, List.length_singleton] at hk2
      have : k = 7 := by omega
      subst this
      rw [List.getElem?_append_right (by omega), hl, Nat.sub_self] at hk
      have : aT A = U := by simpa using hk
      subst this
      exact ⟨t, by rw [if_pos (by omega)]; exact ht, hTt⟩
  · rw [if_neg (fun z => c (h ▸ z))] at hk
    unfold rolA
    rw [if_neg (by omega), if_neg (by omega), if_neg c]
    by_cases d : k < (aHi A).length
    · rw [List.getElem?_append_left d] at hk
      rw [if_neg (by omega)]
      exact hT k U hk
    · have hk2 := (List.getElem?_eq_some_iff.mp hk).1
      rw [List.length_append, List.length_singleton] at hk2
      have : k = n := by omega
      subst this
      rw [List.getElem?_append_right (by omega), h, Nat.sub_self] at hk
      have : aT A = U := by simpa using hk
      subst this
      exact ⟨t, by rw [if_pos rfl]; exact ht, hTt⟩
theorem c_adopt (h : CSr S A R c1 c2) (hA : aOk A) {d : Nat} (hd : R 1 = some d) (hdT : TR S d T) (hT : tOk T) : ∃ S', F_X9_adoptDraft S 0 = some S' ∧ CS S' (aKeep A T) ∧ Fm S S' := by
  obtain ⟨t, ht⟩ := cs_t h
  obtain ⟨x, ts, ho, hh, cd, xt, cn, sc, th, sk, cc, hl⟩ := h
  have h111 := x.1
  have hfull : (aHi A).length = 8 → ∀ k, k < 8 → ∃ a, R (3 + k) = some a := fun h8 k hk => by
    have hk' : k < (aHi A).length := by omega
    obtain ⟨a, a1, -⟩ := th.2.2 k _ (List.getElem?_eq_getElem hk')
    exact ⟨a, a1⟩
  obtain ⟨a, S1, e1, n1, o1, ts1, ho1⟩ := c_push x ts hl ho hfull ht
  have x1 := XO_fr x n1 (o1 0 (by omega) (by omega))
  unfold F_X9_adoptDraft
  rw [x_oF x, (x_gs x).2.2.1, Option.bind_some, x_g0 x ht, Option.bind_some, e1, Option.bind_some]
  dsimp only
  rw [x_g1 x1 hd, Option.bind_some]
  obtain ⟨S2, e2, n2, o2, x2⟩ := x_p0 x1 d
  rw [e2, Option.bind_some]
  have x2' := x2 (pu R 0 (some d)) (pu_at _ _ _) (pu_ne _ _ _ (by decide)) (pu_ne _ _ _ (by decide))
  obtain ⟨S3, e3, n3, o3, x3⟩ := x_p1 x2' a
  rw [e3, Option.bind_some]
  have x3' := x3 (rolA R (aHi A).length a) (by rw [pu_at]; unfold rolA; rw [if_pos rfl]; exact hd) (by unfold rolA; rw [if_neg (by decide), if_pos rfl]) (by
    rw [pu_ne _ _ _ (by decide)]
    unfold rolA
    rw [if_neg (by decide), if_neg (by decide)]
    by_cases c : (aHi A).length = 8
    · rw [if_pos c, if_neg (by decide), if_neg (by decide)]
    · rw [if_neg c, if_neg (by omega)])
  have f13 : ∀ q, q ≠ 0 → S3.2 q = S1.2 q := fun q hq => (o3 q hq).trans (o2 q hq)
  have f03 : ∀ q, q < S.1 → q ≠ 0 → ¬ (31 ≤ q ∧ q < 33) → S3.2 q = S.2 q := fun q q1 q2 q3 => (f13 q q2).trans (o1 q q1 q3)
  have ts3 : TS S3 (rolA R (aHi A).length a) := TS_fr ts1 (by omega) (fun i b q hi hb q1 q2 => f13 q (by have := (ts1.1 i b hi hb).1; omega))
  have trees : ∀ i b q, i < 11 → R i = some b → b ≤ q → q < b + 7 → S3.2 q = S.2 q := fun i b q hi hb q1 q2 => by
    have z1 := (ts.1 i b hi hb).1
    have z2 := TS_sep ts i b hi hb
    exact f03 q (by omega) (by omega) (by omega)
  have r0 : rolA R (aHi A).length a 0 = some d := by unfold rolA; rw [if_pos rfl]; exact hd
  have hdT3 : TR S3 d T := TR_fr hdT (by omega) (fun q q1 q2 => trees 1 d q (by omega) hd q1 q2)
  have sv3 : Sh S3 15 sp6 := sh_fr sk.1 (by omega) (fun q q1 q2 => f03 q (by have : sp6.length = 8 := rfl; omega) (by omega) (by have : sp6.length = 8 := rfl; omega))
  have hh3 := HS_fr hh (S' := S3) (by omega) (fun q q1 q2 => f03 q (by omega) (by omega) (by omega))
  obtain ⟨S4, e4, n4, o4, sk4, hh4⟩ := c_settle x3' ts3 r0 hdT3 hT sv3 hh3 hA.2.2.2.2.1 (fun i hi => tOk_lt hA.1.1 (hA.2.2.2.2.2.1 i hi))
  rw [e4, Option.bind_some]
  have tr4 : ∀ i b q, i < 11 → rolA R (aHi A).length a i = some b → b ≤ q → q < b + 7 → S4.2 q = S3.2 q := fun i b q hi hb q1 q2 => by
    have z1 := (ts3.1 i b hi hb).1
    exact o4 q (by omega) (by omega)
  have f04 : ∀ q, q < S.1 → q ≠ 0 → ¬ (31 ≤ q ∧ q < 33) → ¬ (15 ≤ q ∧ q < 23) → ¬ (33 ≤ q ∧ q < 35) → S4.2 q = S.2 q := fun q q1 q2 q3 q4 q5 => (o4 q q4 q5).trans (f03 q q1 q2 q3)
  have trees4 : ∀ i b q, i < 11 → R i = some b → b ≤ q → q < b + 7 → S4.2 q = S.2 q := fun i b q hi hb q1 q2 => by
    have z1 := (ts.1 i b hi hb).1
    have z2 := TS_sep ts i b hi hb
    exact f04 q (by omega) (by omega) (by omega) (by omega) (by omega)
  refine ⟨S4, rfl, ⟨rolA R (aHi A).length a, c1, c2, ?_⟩, by omega, fun q q1 q2 => f04 q (by omega) (by omega) (by omega) (by omega) (by omega)⟩
  have hc2 : c2 = 35 ∨ c2 = 41 := by omega
  have hc1 : c1 = 35 ∨ c1 = 41 := by omega
  refine ⟨XO_fr x3' (by omega) (o4 0 (by omega) (by omega)), TS_fr ts3 (by omega) tr4, ?_, hh4, CD_fr cd (by omega) (fun q q1 q2 => f04 q (by omega) (by omega) (by omega) (by omega) (by omega)), XT_fr xt (by omega) (fun q q1 q2 => f04 q (by omega) (by omega) (by omega) (by omega) (by omega)), CN_fr cn (by omega) (fun q q1 q2 => f04 q (by omega) (by omega) (by omega) (by omega) (by omega)), SC_fr sc (by omega) hc2 (fun q hq => f04 q (by omega) (by omega) (by omega) (by omega) (by omega)), ⟨fun t' ht' => ?_, ?_, ?_⟩, sk4, cc, ?_⟩
  · have e : (aHi (aKeep A T)).length = if (aHi A).length = 8 then 8 else (aHi A).length + 1 := by
      show (pushH (aHi A) (aT A)).length = _
      unfold pushH
      by_cases c : (aHi A).length = 8
      · rw [if_pos c, if_pos c, List.length_append, List.length_tail, c]; rfl
      · rw [if_neg c, if_neg c, List.length_append]; rfl
    rw [e]
    exact HO_fr ho1 (by omega) (fun q q1 q2 => (o4 q (by omega) (by omega)).trans (f13 q (by omega)))
  · rw [r0] at ht'
    cases ht'
    exact TR_fr hdT3 (by omega) (fun q q1 q2 => tr4 0 d q (by omega) r0 q1 q2)
  · have r2 : rolA R (aHi A).length a 2 = R 2 := by
      unfold rolA
      rw [if_neg (by decide), if_neg (by decide)]
      by_cases c : (aHi A).length = 8
      · rw [if_pos c, if_neg (by decide), if_neg (by decide)]
      · rw [if_neg c, if_neg (by omega)]
    have th2 := th.2.1
    show match aSv A with
      | none => rolA R (aHi A).length a 2 = none
      | some U => ∃ b, rolA R (aHi A).length a 2 = some b ∧ TR S4 b U
    cases es : aSv A with
    | none => rw [es] at th2; rw [r2]; exact th2
    | some U =>
      rw [es] at th2
      obtain ⟨b, b1, b2⟩ := th2
      exact ⟨b, by rw [r2]; exact b1, TR_fr b2 (by omega) (fun q q1 q2 => trees4 2 b q (by omega) b1 q1 q2)⟩
  · refine rolA_hi (A := A) rfl hl (fun k U hk => ?_) ht (TR_fr (th.1 t ht) (by omega) (fun q q1 q2 => trees4 0 t q (by omega) ht q1 q2))
    obtain ⟨b, b1, b2⟩ := th.2.2 k U hk
    have hk2 := (List.getElem?_eq_some_iff.mp hk).1
    exact ⟨b, b1, TR_fr b2 (by omega) (fun q q1 q2 => trees4 (3 + k) b q (by omega) b1 q1 q2)⟩
  · exact (keep_aOk_len hA)
/-- the draft may be written -/
theorem c_draft (h : CSr S A R c1 c2) {d : Nat} (hd : R 1 = some d) {S1 : pS} (hb : Bk S S1 d 7) (hs : Sh S1 d sp8) : CSr S1 A R c1 c2 ∧ Fm S S1 := by
  have hp := (h.2.1.1 1 d (by omega) hd).1
  have hc : (c1 = 35 ∧ c2 = 41) ∨ (c1 = 41 ∧ c2 = 35) := h.2.2.2.2.2.2.2.2.2.2.1
  refine ⟨CSr_fr h (Nat.le_of_eq hb.1.symm) (SC_fr h.2.2.2.2.2.2.2.1 (Nat.le_of_eq hb.1.symm) (by omega) (fun q hq => hb.2 q (by omega))) (fun d' hd' => by rw [hd] at hd'; cases hd'; exact hs) (fun q q1 q2 => hb.2 q ?_), Nat.le_of_eq hb.1.symm, fun q q1 q2 => hb.2 q (by omega)⟩
  rcases Nat.lt_or_ge q d with z | z
  · exact Or.inl z
  · right
    rcases Nat.lt_or_ge q (d + 7) with w | w
    · exact absurd (Or.inr (Or.inr (Or.inr (Or.inr (Or.inr (Or.inr (Or.inr ⟨d, hd, z, w⟩))))))) q2
    · exact w
/-- the tree is copied into the draft -/
theorem c_copyD (h : CSr S A R c1 c2) (hA : aOk A) : ∃ t d S1, R 0 = some t ∧ R 1 = some d ∧ oGA S 0 9 0 = some t ∧ oGA S 0 9 1 = some d ∧ F_X8_copyFrom S d t = some S1 ∧ CSr S1 A R c1 c2 ∧ Fm S S1 ∧ TR S1 d (aT A) ∧ oGA S1 0 9 1 = some d := by
  obtain ⟨t, ht⟩ := cs_t h
  obtain ⟨d, hd⟩ := cs_d h
  have hs := (h.2.1.1 1 d (by omega) hd).2
  have hsep := h.2.1.2 1 0 d t (by omega) (by omega) (by omega) hd ht
  obtain ⟨S1, e, h1, h2⟩ := c_copy hs (h.2.2.2.2.2.2.2.2.1.1 t ht) hA.1.1 hsep
  obtain ⟨h3, h4⟩ := c_draft h hd h2 h1.1
  exact ⟨t, d, S1, ht, hd, x_g0 h.1 ht, x_g1 h.1 hd, e, h3, h4, h1, x_g1 h3.1 hd⟩
theorem c_needItem (h : CSr S A R c1 c2) (x : Int32) : F_X9_needItem S 0 x = some (if itm (aT A) x = true then .inl S else .inr (nNSE, S)) := by
  obtain ⟨t, ht⟩ := cs_t h
  unfold F_X9_needItem
  rw [x_oF h.1, x_g0 h.1 ht, Option.bind_some, c_holds (h.2.2.2.2.2.2.2.2.1.1 t ht), Option.bind_some]
  cases itm (aT A) x
  · rw [ite4 rfl, if_neg (by decide)]; rfl
  · rw [ite5 rfl, if_pos rfl]
theorem c_needNamed (h : CSr S A R c1 c2) (x : Int32) : F_X9_needNamedItem S 0 x = some (if x ≠ 0 ∧ itm (aT A) x = true then .inl S else .inr (nNSE, S)) := by
  obtain ⟨t, ht⟩ := cs_t h
  unfold F_X9_needNamedItem F_X9_needNamedItem_15
  rw [x_oF h.1]
  by_cases c : x = 0
  · rw [if_pos c, if_neg (fun z => z.1 c)]; rfl
  · rw [if_neg c, x_g0 h.1 ht, Option.bind_some, c_holds (h.2.2.2.2.2.2.2.2.1.1 t ht), Option.bind_some]
    cases e : itm (aT A) x
    · rw [ite4 rfl, if_neg (fun z => by cases z.2)]; rfl
    · rw [ite5 rfl, if_pos ⟨c, rfl⟩]
theorem c_needIndex (h : CSr S A R c1 c2) (x : Int32) {n : Nat} (hn : n < 2 ^ 31) : F_X9_needIndex S 0 x (nI n) = some (if (ixN x n).isSome = true then .inl S else .inr (nIOO, S)) := by
  unfold F_X9_needIndex F_X9_needIndex_9
  rw [x_oF h.1]
  rcases ixN_c x hn with ⟨j, hj, rfl, e⟩ | ⟨e, z⟩
  · rw [e, if_neg (nI_pos (by omega)), if_pos (nI_lt hj hn)]; rfl
  · rw [e]
    rcases z with z | z
    · rw [if_pos z]; rfl
    · by_cases c : x < 0
      · rw [if_pos c]; rfl
      · rw [if_neg c, if_neg (Int32.not_lt.mpr z)]; rfl
theorem c_needGap (h : CSr S A R c1 c2) (x : Int32) {n : Nat} (hn : n + 1 < 2 ^ 31) : F_X9_needGap S 0 x (nI n) = some (if (ixN x (n + 1)).isSome = true then .inl S else .inr (nIOO, S)) := by
  unfold F_X9_needGap F_X9_needGap_9
  rw [x_oF h.1]
  rcases ixN_c x hn with ⟨j, hj, rfl, e⟩ | ⟨e, z⟩
  · rw [e, if_neg (nI_pos (by omega)), if_pos (nI_le (by omega) (by omega))]; rfl
  · rw [e]
    by_cases c : x < 0
    · rw [if_pos c]; rfl
    · rw [if_neg c, if_neg]
      · rfl
      · rcases z with z | z
        · exact absurd z c
        · obtain ⟨j, hj, rfl⟩ := nI_of c
          have := (nI_leI hn hj).mp z
          exact nI_ge (by omega) hj
end CCA
