/-! the class goes back: undo, snapshot, restore, clear; hoists -/
section CBK
variable {S : pS} {R : Nat → Option Nat} {c1 c2 : Nat} {T U : Tr} {A : As}
theorem c_countItems {a : Nat} (h : TR S a T) (hT : tOk T) : F_X8_countItems S a = some (nI (cntB (tPres T))) := by
  unfold F_X8_countItems
  have hb : F_J13_bitCount_95d88 S (fJ (S.2 a) 6) = some (nI (cntB (tPres T))) := by
    rw [bitCount_eq _ _ (fun i h1 h2 => ?_)]
    · congr 2
      unfold cntB
      congr 1
      refine List.filter_congr (fun i hi => h.2.2.1 i (by have := List.mem_range.mp hi; omega))
    · rw [h.2.2.1 i h2]
      cases e : tPres T i
      · rfl
      · have := tOk_lt hT e
        omega
  rw [s8_oF h.1, s8_g6 h.1, Option.bind_some, hb, Option.bind_some]
/-- the end of a way back: the tree holds U, the roles are R', the history is hi; all settles -/
theorem c_backEnd {R' : Nat → Option Nat} {S1 : pS} {hi : List Tr} {L : List Cnd} {H : List Nat} (h : CSr S A R c1 c2) (hA : aOk A) (hn : S.1 ≤ S1.1) (x1 : XO S1 R' c1 c2 (erI (aEr A))) (ts1 : TS S1 R') {t : Nat} (ht : R' 0 = some t) (hU : TR S1 t U) (hok : tOk U) (ho : HO S1 R' hi.length) (hhi : hi.length ≤ 8)
    (hH : HS S1 H) (hHl : H.length ≤ 4) (hHb : ∀ i, i ∈ H → i < 61) (cd : CD S1 c1 L)
    (o : ∀ q, q < S.1 → 15 ≤ q → ¬ (31 ≤ q ∧ q < 35) → ¬ (c1 ≤ q ∧ q < c1 + 6) → (q < 111) → S1.2 q = S.2 q)
    (sv : match aSv A with
      | none => R' 2 = none
      | some V => ∃ b, R' 2 = some b ∧ TR S1 b V) (th : ∀ (k : Nat) V, hi[k]? = some V → ∃ b, R' (3 + k) = some b ∧ TR S1 b V) :
    ∃ S', F_X9_settle S1 0 = some S' ∧ CSr S' (U, aSv A, hi, chkH U H, aTx A, aEr A, aCh A, L) R' c1 c2 ∧ Fm S1 S' ∧ TR S' t U := by
  obtain ⟨x, ts, ho0, hh, cd0, xt, cn, sc, th0, sk, cc, hl⟩ := h
  have h111 := x.1
  have l6 : sp6.length = 8 := rfl
  have sv1 : Sh S1 15 sp6 := sh_fr sk.1 hn (fun q q1 q2 => o q (by omega) (by omega) (by omega) (by omega) (by omega))
  obtain ⟨S4, e4, n4, o4, sk4, hh4⟩ := c_settle x1 ts1 ht hU hok sv1 hH hHl hHb
  have tr4 : ∀ i b q, i < 11 → R' i = some b → b ≤ q → q < b + 7 → S4.2 q = S1.2 q := fun i b q hi hb q1 q2 => by
    have z1 := (ts1.1 i b hi hb).1
    exact o4 q (by omega) (by omega)
  have f04 : ∀ q, 35 ≤ q → q < 111 → ¬ (c1 ≤ q ∧ q < c1 + 6) → S4.2 q = S.2 q := fun q q1 q2 q3 => (o4 q (by omega) (by omega)).trans (o q (by omega) (by omega) (by omega) q3 q2)
  have f23 : ∀ q, 23 ≤ q → q < 31 → S4.2 q = S.2 q := fun q q1 q2 => (o4 q (by omega) (by omega)).trans (o q (by omega) (by omega) (by omega) (by omega) (by omega))
  have hU4 := TR_fr hU (Nat.le_of_eq n4.symm) (fun q q1 q2 => tr4 0 t q (by omega) ht q1 q2)
  refine ⟨S4, e4, ⟨XO_fr x1 (by omega) (o4 0 (by omega) (by omega)), TS_fr ts1 (by omega) tr4, HO_fr ho (by omega) (fun q q1 q2 => o4 q (by omega) (by omega)), hh4, CD_fr cd (by omega) (fun q q1 q2 => o4 q (by omega) (by omega)), XT_fr xt (by omega) (fun q q1 q2 => f04 q (by omega) (by omega) (by omega)), CN_fr cn (by omega) (fun q q1 q2 => f04 q (by omega) (by omega) (by omega)), SC_fr sc (by omega) (by omega) (fun q hq => ?_), ⟨fun t' ht' => ?_, ?_, fun k V hk => ?_⟩, sk4, cc, hhi⟩, ⟨by omega, fun q q1 q2 => o4 q (by omega) (by omega)⟩, hU4⟩
  · rcases hq with z | z | z | z | z | z
    · exact f23 q z.1 z.2
    · exact f04 q (by omega) (by omega) (by omega)
    · exact f04 q (by omega) (by omega) (by omega)
    · exact f04 q (by omega) (by omega) (by omega)
    · exact f04 q (by omega) (by omega) (by omega)
    · exact f04 q (by omega) (by omega) (by omega)
  · rw [ht] at ht'
    cases ht'
    exact hU4
  · show match aSv A with
      | none => R' 2 = none
      | some V => ∃ b, R' 2 = some b ∧ TR S4 b V
    cases es : aSv A with
    | none => rw [es] at sv; exact sv
    | some V =>
      rw [es] at sv
      obtain ⟨b, b1, b2⟩ := sv
      exact ⟨b, b1, TR_fr b2 (by omega) (fun q q1 q2 => tr4 2 b q (by omega) b1 q1 q2)⟩
  · obtain ⟨b, b1, b2⟩ := th k V hk
    have hk2 := (List.getElem?_eq_some_iff.mp hk).1
    have hk3 : k < hi.length := hk2
    exact ⟨b, b1, TR_fr b2 (by omega) (fun q q1 q2 => tr4 (3 + k) b q (by omega) b1 q1 q2)⟩
theorem sv_fr {S1 : pS} {R' : Nat → Option Nat} (th : TH S R A) (r2 : R' 2 = R 2) (f : ∀ b V, R 2 = some b → TR S b V → TR S1 b V) : match aSv A with
      | none => R' 2 = none
      | some V => ∃ b, R' 2 = some b ∧ TR S1 b V := by
  have th2 := th.2.1
  cases es : aSv A with
  | none => rw [es] at th2; rw [r2]; exact th2
  | some V =>
    rw [es] at th2
    obtain ⟨b, b1, b2⟩ := th2
    exact ⟨b, r2.trans b1, f b V b1 b2⟩
def pis (u i : Nat) : Nat := if i = 0 then 3 + u else if i = 3 + u then 0 else i
theorem pis_i : ∀ u, u < 8 → ∀ i, i < 11 → ∀ j, j < 11 → i ≠ j → pis u i ≠ pis u j := by decide +kernel
theorem pis_b : ∀ u, u < 8 → ∀ i, i < 11 → pis u i < 11 := by decide +kernel
theorem h_size {n : Nat} (h : HO S R n) : F_X3_size S 31 = some (nI n) := by
  unfold F_X3_size
  rw [(h_g h).1, (h_g h (k := (none : Option Nat))).2.1, Option.bind_some]
theorem c_undo (h : CSr S A R c1 c2) (hA : aOk A) : cC S (fun _ => nISE) (F_X9_undo S 0) (stUndo A) := by
  unfold F_X9_undo stUndo
  obtain ⟨t, ht⟩ := cs_t h
  have h0 := h
  obtain ⟨x, ts, ho, hh, cd, xt, cn, sc, th, sk, cc, hl⟩ := h
  have h111 := x.1
  rw [x_oF x, (x_gs x).2.2.1, Option.bind_some, h_size ho, Option.bind_some]
  cases e : (aHi A).getLast? with
  | none =>
    rw [List.getLast?_eq_none_iff] at e
    rw [if_neg (fun z => z (by rw [e]; rfl))]
    exact cC_x (Fm_refl _) (cs_of h0) (by decide) rfl
  | some U =>
    have hne : aHi A ≠ [] := fun z => by rw [z] at e; cases e
    have hlen : 0 < (aHi A).length := List.length_pos_iff.mpr hne
    obtain ⟨u, hu⟩ : ∃ u, (aHi A).length = u + 1 := ⟨(aHi A).length - 1, by omega⟩
    have hUu : (aHi A)[u]? = some U := by rw [List.getLast?_eq_getElem?, hu] at e; exact e
    have hUg := hA.2.2.1 U (List.mem_of_getElem? hUu)
    obtain ⟨b, hb, hbU⟩ := th.2.2 u U hUu
    have hu8 : u < 8 := by omega
    have htS := (ts.1 0 t (by omega) ht).2
    -- the row
    obtain ⟨S1, e1, n1, o1, ho1⟩ := h_n ho u
    have hts1 : Sh S1 t sp8 := sh_fr htS (by omega) (fun q z1 z2 => o1 q (by
      have := (ts.1 0 t (by omega) ht).1
      have : sp8.length = 7 := rfl
      omega))
    obtain ⟨S2, e2, n2, o2, ho2⟩ := h_w ho1 hu8 hts1
    have r0 : (fun i => R (pis u i)) 0 = some b := by show R (pis u 0) = _; unfold pis; rw [if_pos rfl]; exact hb
    have ho2' := ho2 (fun i => R (pis u i)) (by show R (pis u (3 + u)) = _; unfold pis; rw [if_neg (by omega), if_pos rfl]; exact ht) (fun j hj hju => by show R (pis u (3 + j)) = _; unfold pis; rw [if_neg (by omega), if_neg (by omega)])
    have epop : F_X3_pop S 31 t = some (b, S2) := by
      unfold F_X3_pop
      rw [(h_g ho).1, (h_g ho (k := (none : Option Nat))).2.1, Option.bind_some, hu, if_neg (nI_nle (by omega) (by omega)), (h_g ho (k := (none : Option Nat))).2.2, Option.bind_some, Option.bind_some, nI_pred, h_r ho hu8, Option.bind_some]
      unfold F_X3_pop_22
      rw [(h_g ho (k := (none : Option Nat))).2.1, Option.bind_some, hu, if_neg (nI_nle (by omega) (by omega)), Option.bind_some, nI_pred, e1, Option.bind_some, (h_g ho1 (k := (none : Option Nat))).2.2, Option.bind_some, (h_g ho1 (k := (none : Option Nat))).2.1, Option.bind_some, e2, Option.bind_some, hb]
      rfl
    have f02 : ∀ q, ¬ (31 ≤ q ∧ q < 33) → S2.2 q = S.2 q := fun q hq => by rw [o2 q (by omega), o1 q (by omega)]
    have x2 := XO_fr x (S' := S2) (by omega) (f02 0 (by omega))
    rw [if_pos (nI_n0 (by omega) (by omega)), Option.bind_some, x_g0 x ht, Option.bind_some, epop, Option.bind_some]
    dsimp only
    obtain ⟨S3, e3, n3, o3, x3⟩ := x_p0 x2 b
    have x3' := x3 (fun i => R (pis u i)) r0 (by show R (pis u 1) = _; unfold pis; rw [if_neg (by decide), if_neg (by omega)]) (by show R (pis u 2) = _; unfold pis; rw [if_neg (by decide), if_neg (by omega)])
    have f03 : ∀ q, q ≠ 0 → ¬ (31 ≤ q ∧ q < 33) → S3.2 q = S.2 q := fun q q0 hq => (o3 q q0).trans (f02 q hq)
    have tr3 : ∀ i a q, i < 11 → R i = some a → a ≤ q → q < a + 7 → S3.2 q = S.2 q := fun i a q hi ha q1 q2 => by
      have := (ts.1 i a hi ha).1
      exact f03 q (by omega) (by omega)
    have ts3 : TS S3 (fun i => R (pis u i)) := TS_perm (TS_fr ts (by omega) tr3) (pis u) (fun i j hi hj hij => pis_i u hu8 i hi j hj hij) (pis_b u hu8) (fun i hi => rfl)
    have hdl : (aHi A).dropLast.length = u := by rw [List.length_dropLast, hu]; rfl
    obtain ⟨S4, e4, h4, f4, -⟩ := c_backEnd (R' := fun i => R (pis u i)) (S1 := S3) (hi := (aHi A).dropLast) (L := aCn A) (H := aHo A) (U := U) h0 hA (by omega) x3' ts3 r0 (TR_fr hbU (by omega) (fun q q1 q2 => tr3 (3 + u) b q (by omega) hb q1 q2)) hUg.1 (by rw [hdl]; exact HO_fr ho2' (by omega) (fun q q1 q2 => o3 q (by omega))) (by omega) (HS_fr hh (by omega) (fun q q1 q2 => f03 q (by omega) (by omega))) hA.2.2.2.2.1 (fun i hi => tOk_lt hA.1.1 (hA.2.2.2.2.2.1 i hi)) (CD_fr cd (by omega) (fun q q1 q2 => f03 q (by omega) (by omega))) (fun q q1 q2 q3 q4 q5 => f03 q (by omega) (by omega))
      (sv_fr (R' := fun i => R (pis u i)) (S1 := S3) th (by show R (pis u 2) = _; unfold pis; rw [if_neg (by decide), if_neg (by omega)]) (fun b V h1 h2 => TR_fr h2 (by omega) (fun q q1 q2 => tr3 2 b q (by omega) h1 q1 q2)))
      (fun k V hk => by
        have hk2 := (List.getElem?_eq_some_iff.mp hk).1
        rw [hdl] at hk2
        rw [List.getElem?_dropLast, if_pos (by omega)] at hk
        obtain ⟨a, a1, a2⟩ := th.2.2 k V hk
        refine ⟨a, ?_, TR_fr a2 (by omega) (fun q q1 q2 => tr3 (3 + k) a q (by omega) a1 q1 q2)⟩
        show R (pis u (3 + k)) = _
        unfold pis
        rw [if_neg (by omega), if_neg (by omega)]
        exact a1)
    rw [e3, Option.bind_some, e4, Option.bind_some, (x_gs h4.1).2.2.1, Option.bind_some, h_size h4.2.2.1, Option.bind_some]
    have el : (aHi (U, aSv A, (aHi A).dropLast, chkH U (aHo A), aTx A, aEr A, aCh A, aCn A)).length = (aHi A).length - 1 := by
      show (aHi A).dropLast.length = _
      rw [hdl, hu]; rfl
    rw [el]
    exact cC_ok (Fm_trans ⟨by omega, fun q q1 q2 => f03 q (by omega) (by omega)⟩ f4) ⟨_, _, _, h4⟩
theorem c_restore (h : CSr S A R c1 c2) (hA : aOk A) : cC S (fun _ => nISE) (F_X9_restore S 0) (stRestore A) := by
  unfold F_X9_restore stRestore
  obtain ⟨t, ht⟩ := cs_t h
  have h0 := h
  obtain ⟨x, ts, ho, hh, cd, xt, cn, sc, th, sk, cc, hl⟩ := h
  have h111 := x.1
  have th2 := th.2.1
  rw [x_oF x, x_g2 x, Option.bind_some]
  cases es : aSv A with
  | none =>
    rw [es] at th2
    have th2' : R 2 = none := th2
    rw [th2']
    exact cC_x (Fm_refl _) (cs_of h0) (by decide) rfl
  | some U =>
    rw [es] at th2
    obtain ⟨b, b1, b2⟩ := th2
    have hUg := hA.2.1 U es
    rw [b1]
    dsimp only
    rw [x_g0 x ht, Option.bind_some, Option.bind_some, Option.bind_some]
    have htS := (ts.1 0 t (by omega) ht).2
    have hsep := ts.2 0 2 t b (by omega) (by omega) (by omega) ht b1
    have htp := (ts.1 0 t (by omega) ht).1
    obtain ⟨S1, e1, t1, k1⟩ := c_copy htS b2 hUg.1 hsep
    have x1 := XO_fr x (Nat.le_of_eq k1.1.symm) (k1.2 0 (by omega))
    have ho1 := HO_fr ho (Nat.le_of_eq k1.1.symm) (fun q q1 q2 => k1.2 q (by omega))
    obtain ⟨S2, e2, n2, o2, ho2⟩ := h_n ho1 0
    have ef : F_X3_forget S1 31 = some S2 := by
      unfold F_X3_forget
      have e2' : oPI S1 31 3 1 (0 : Int32) = some S2 := e2
      rw [(h_g ho1).1, e2', Option.bind_some]
    have x2 := XO_fr x1 (S' := S2) (by omega) (o2 0 (by decide))
    have f02 : ∀ q, (q < t ∨ t + 7 ≤ q) → q ≠ 31 → S2.2 q = S.2 q := fun q hq h31 => (o2 q h31).trans (k1.2 q hq)
    have tr2 : ∀ i a q, i < 11 → i ≠ 0 → R i = some a → a ≤ q → q < a + 7 → S2.2 q = S.2 q := fun i a q hi h0 ha q1 q2 => by
      have := (ts.1 i a hi ha).1
      have := ts.2 i 0 a t hi (by omega) h0 ha ht
      exact f02 q (by omega) (by omega)
    have t2 : TR S2 t U := TR_fr t1 (by omega) (fun q q1 q2 => o2 q (by omega))
    have n12 := k1.1
    have ts2 : TS S2 R := ⟨fun i a hi ha => ⟨(ts.1 i a hi ha).1, by
      by_cases c : i = 0
      · subst c
        rw [ht] at ha
        cases ha
        exact t2.1
      · exact sh_fr (ts.1 i a hi ha).2 (by omega) (fun q q1 q2 => tr2 i a q hi c ha q1 (by have : sp8.length = 7 := rfl; omega))⟩, ts.2⟩
    obtain ⟨S4, e4, h4, f4, t4⟩ := c_backEnd (R' := R) (S1 := S2) (hi := []) (L := aCn A) (H := aHo A) (U := U) h0 hA (by omega) x2 ts2 ht t2 hUg.1 ho2 (Nat.zero_le _) (HS_fr hh (by omega) (fun q q1 q2 => f02 q (by omega) (by omega))) hA.2.2.2.2.1 (fun i hi => tOk_lt hA.1.1 (hA.2.2.2.2.2.1 i hi)) (CD_fr cd (by omega) (fun q q1 q2 => f02 q (by omega) (by omega))) (fun q q1 q2 q3 q4 q5 => f02 q (by omega) (by omega))
      (sv_fr th rfl (fun b V h1 h2 => TR_fr h2 (by omega) (fun q q1 q2 => tr2 2 b q (by omega) (by omega) h1 q1 q2)))
      (fun k V hk => by simp at hk)
    rw [e1, Option.bind_some, (x_gs x1).2.2.1, Option.bind_some, ef, Option.bind_some, e4, Option.bind_some, x_g0 h4.1 ht, Option.bind_some, c_countItems t4 hUg.1, Option.bind_some]
    exact cC_ok (Fm_trans ⟨by omega, fun q q1 q2 => f02 q (by omega) (by omega)⟩ f4) ⟨_, _, _, h4⟩
end CBK
