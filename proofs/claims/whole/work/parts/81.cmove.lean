/-! the class moves blocks -/
section CMV
variable {S : pS} {R : Nat → Option Nat} {c1 c2 : Nat} {T U : Tr} {A : As}
/-- what stands in the row of the block -/
def BL (S : pS) (l : List Nat) : Prop := ∀ (j c : Nat), l[j]? = some c → cI (S.2 67) j = nI c
theorem raw_r {a n i : Nat} {ty : FieldType} (h : rawA S a ty n) (hi : i < n) (hn : n < 2 ^ 31) : oAI S a ty (nI i) = some (cI (S.2 a) i) := by
  obtain ⟨h1, f, h2, -⟩ := h
  unfold oAI
  rw [oArI_mk h1 h2, Option.bind_some, if_neg (nI_in hi hn), nI_clamp (by omega), h2]
  rfl
theorem raw_w {a n i : Nat} (h : rawA S a .int n) (hi : i < n) (hn : n < 2 ^ 31) (v : Int32) : oSI S a .int (nI i) v = some (wI S a i v) ∧ rawA (wI S a i v) a .int n ∧ cI ((wI S a i v).2 a) = pu (cI (S.2 a)) i v := by
  obtain ⟨h1, f, h2, h3⟩ := h
  refine ⟨?_, ⟨h1, pu f i v, ?_, fun j => rfl⟩, ?_⟩
  · unfold oSI wI
    rw [oArI_mk h1 h2, Option.bind_some, if_neg (nI_in hi hn), nI_clamp (by omega), h2]
    rfl
  · rw [wI_at, h2]; rfl
  · rw [wI_at, h2]; rfl
/-- the row of the block is written -/
theorem c_w67 (h : CSr S A R c1 c2) {k : Nat} (hk : k < 12) (v : Int32) : oSI S 67 .int (nI k) v = some (wI S 67 k v) ∧ CSr (wI S 67 k v) A R c1 c2 ∧ Fm S (wI S 67 k v) ∧ cI ((wI S 67 k v).2 67) = pu (cI (S.2 67)) k v := by
  have hs := h.2.2.2.2.2.2.2.1
  have hc : (c1 = 35 ∧ c2 = 41) ∨ (c1 = 41 ∧ c2 = 35) := h.2.2.2.2.2.2.2.2.2.2.1
  obtain ⟨e, r, v'⟩ := raw_w hs.2.2.2.2.2 hk (by decide) v
  have o : ∀ q, q ≠ 67 → (wI S 67 k v).2 q = S.2 q := fun q hq => wI_ne _ _ _ hq
  refine ⟨e, CSr_fr h (Nat.le_refl _) ⟨sh_wI hs.1 _ _ _, sh_wI hs.2.1 _ _ _, sh_wI hs.2.2.1 _ _ _, sh_wI hs.2.2.2.1 _ _ _, rawA_fr hs.2.2.2.2.1 (Nat.le_refl _) (o 66 (by decide)), r⟩ (fun d hd => sh_wI (h.2.1.1 1 d (by omega) hd).2 _ _ _) (fun q q1 q2 => o q (by omega)), ⟨Nat.le_refl _, fun q q1 q2 => o q (by omega)⟩, v'⟩
theorem c_takeBlock (h : CSr S A R c1 c2) {d p f n : Nat} (hd : R 1 = some d) (hU : TR S d U) (hok : tOk U) (hp : tPres U p = true) (hf : f + n ≤ (tKids U p).length) : ∃ S', F_X9_takeBlock S 0 (nI p) (nI f) (nI n) = some S' ∧ CSr S' A R c1 c2 ∧ Fm S S' ∧ TR S' d (bPul U p f n).1 ∧ BL S' (bPul U p f n).2 := by
  have h12 := (hok.2.2.2.1 p hp).1
  have hp61 := tOk_lt hok hp
  unfold F_X9_takeBlock
  obtain ⟨S', e, hh⟩ := iter_fu (F := F_X9_takeBlock_3 0 (nI p) (nI f) (nI n)) (s := ((0 : Int32), S)) (fun k s => s.1 = nI k ∧ CSr s.2 A R c1 c2 ∧ Fm S s.2 ∧ TR s.2 d (bPul U p f k).1 ∧ BL s.2 (bPul U p f k).2) (P := fun S' => CSr S' A R c1 c2 ∧ Fm S S' ∧ TR S' d (bPul U p f n).1 ∧ BL S' (bPul U p f n).2) n (by omega) ⟨rfl, h, Fm_refl _, hU, fun j c hc => by have hc' : ([] : List Nat)[j]? = some c := hc; simp at hc'⟩
    (by
      rintro ⟨b, S1⟩ ⟨h1, h2, h3, h4, h5⟩
      dsimp only at h1 h2 h3 h4 h5
      subst h1
      unfold F_X9_takeBlock_3
      rw [if_pos (Int32.le_refl _)]
      exact ⟨_, rfl, h2, h3, h4, h5⟩)
    (by
      rintro k ⟨b, S1⟩ hk ⟨h1, h2, h3, h4, h5⟩
      dsimp only at h1 h2 h3 h4 h5
      subst h1
      have ok1 := bPul_ok hok p f k
      have hl := bPul_p U p f k (by omega)
      have hfl : f < (tKids (bPul U p f k).1 p).length := by rw [hl]; omega
      have hpp : tPres (bPul U p f k).1 p = true := by rw [(bPul_pres U p f k).1]; exact hp
      have hl12 := (ok1.2.2.2.1 p hpp).1
      unfold F_X9_takeBlock_3
      rw [if_neg (nI_ge hk (by omega)), (x_gs h2.1).2.2.2.2.2.2.2.2.2.2.2.1, Option.bind_some, x_g1 h2.1 hd, Option.bind_some]
      dsimp only
      rw [c_childAt h4 hp61 (by omega) hpp (List.getElem?_eq_getElem hfl), Option.bind_some]
      obtain ⟨e6, h6, f6, v6⟩ := c_w67 h2 (show k < 12 by omega) (nI (tKids (bPul U p f k).1 p)[f])
      have hdp := (h2.2.1.1 1 d (by omega) hd).1
      have t6 : TR (wI S1 67 k (nI (tKids (bPul U p f k).1 p)[f])) d (bPul U p f k).1 := TR_fr h4 (Nat.le_refl _) (fun q q1 q2 => wI_ne _ _ _ (by omega))
      rw [e6, Option.bind_some, x_g1 h6.1 hd, Option.bind_some]
      obtain ⟨S3, e7, t7, b7⟩ := c_remove t6 ok1 hpp hfl
      obtain ⟨h7, f7⟩ := c_draft h6 hd b7 t7.1
      rw [e7, Option.bind_some, nI_1]
      refine ⟨_, rfl, rfl, h7, Fm_trans h3 (Fm_trans f6 f7), t7, fun j c hc => ?_⟩
      dsimp only at hc ⊢
      rw [b7.2 67 (by omega), v6]
      have hc' : ((bPul U p f k).2 ++ [(tKids (bPul U p f k).1 p).getD f 0])[j]? = some c := hc
      have hbl := bPul_len U p f k
      by_cases dd : j = k
      · subst dd
        rw [List.getElem?_append_right (by omega), hbl, Nat.sub_self] at hc'
        have : (tKids (bPul U p f j).1 p).getD f 0 = c := by simpa using hc'
        rw [pu_at, ← this, List.getD_eq_getElem?_getD, List.getElem?_eq_getElem hfl]; rfl
      · rw [pu_ne _ _ _ dd]
        apply h5
        rw [List.getElem?_append] at hc'
        by_cases l : j < (bPul U p f k).2.length
        · rw [if_pos l] at hc'; exact hc'
        · rw [if_neg l] at hc'
          have := (List.getElem?_eq_some_iff.mp hc').1
          rw [List.length_singleton] at this
          omega)
  rw [x_oF h.1, e, Option.bind_some]
  exact ⟨S', rfl, hh⟩
theorem c_putBlock (h : CSr S A R c1 c2) {d t i : Nat} {l : List Nat} (hd : R 1 = some d) (hU : TR S d U) (hok : tOk U) (hb : BL S l) (hl : l.length ≤ 12) (ht : tPres U t = true) (hi : i ≤ (tKids U t).length) (hc : ∀ c, c ∈ l → tPres U c = true ∧ c ≠ 0) (code : Int32) (hcode : code ≠ 60) :
    match bPut t i U 0 l with
    | .inl V => ∃ S', F_X9_putBlock S 0 code (nI l.length) (nI t) (nI i) = some (1, S') ∧ CSr S' A R c1 c2 ∧ Fm S S' ∧ TR S' d V ∧ tOk V
    | .inr q => ∃ S', F_X9_putBlock S 0 code (nI l.length) (nI t) (nI i) = some (0, S') ∧ CSr S' (aSetCh A (if code = 30 then [code, 100 + nI q.1, q.2] else [code, q.2])) R c1 c2 ∧ Fm S S' := by
  have hT61 := tOk_lt hok ht
  unfold F_X9_putBlock
  obtain ⟨r, e, hr⟩ := iter_fu (F := F_X9_putBlock_3 0 code (nI l.length) (nI t) (nI i)) (s := ((0 : Int32), S)) (fun n s => s.1 = nI n ∧ CSr s.2 A R c1 c2 ∧ Fm S s.2 ∧ BL s.2 l ∧ ∃ V, TR s.2 d V ∧ tOk V ∧ tPres V = tPres U ∧ i + n ≤ (tKids V t).length ∧ bPut t i V n (l.drop n) = bPut t i U 0 l)
    (P := fun r => match bPut t i U 0 l with
      | .inl V => ∃ S', r = .inr S' ∧ CSr S' A R c1 c2 ∧ Fm S S' ∧ TR S' d V ∧ tOk V
      | .inr q => ∃ S', r = .inl (nI q.1, q.2, S') ∧ CSr S' A R c1 c2 ∧ Fm S S') l.length (by omega) ⟨rfl, h, Fm_refl _, hb, U, hU, hok, rfl, hi, by rw [List.drop_zero]⟩
    (by
      rintro ⟨b, S1⟩ ⟨h1, h2, h3, h4, V, h5, h6, h7, h8, h9⟩
      dsimp only at h1 h2 h3 h4 h5
      subst h1
      unfold F_X9_putBlock_3
      rw [if_pos (Int32.le_refl _)]
      rw [List.drop_length] at h9
      have h9' : (Sum.inl V : Tr ⊕ (Nat × Int32)) = bPut t i U 0 l := h9
      rw [← h9']
      exact ⟨_, rfl, S1, rfl, h2, h3, h5, h6⟩)
    (by
      rintro n ⟨b, S1⟩ hn ⟨h1, h2, h3, h4, V, h5, h6, h7, h8, h9⟩
      dsimp only at h1 h2 h3 h4 h5
      subst h1
      have hcn := hc _ (List.getElem_mem hn)
      have hcV : tPres V l[n] = true := by rw [h7]; exact hcn.1
      have htV : tPres V t = true := by rw [h7]; exact ht
      obtain ⟨S2, e2, g2, f2, t2, k2, o67, -⟩ := c_trial h2 hd h5 h6
      have hb2 : cI (S2.2 67) n = nI l[n] := by rw [o67]; exact h4 n _ (List.getElem?_eq_getElem hn)
      have er : oAI S2 67 .int (nI n) = some (nI l[n]) := by rw [raw_r g2.2.2.2.2.2.2.2.1.2.2.2.2.2 (by omega) (by decide), hb2]
      unfold F_X9_putBlock_3
      rw [if_neg (nI_ge hn (by omega)), (x_gs h2.1).2.1, Option.bind_some, x_g1 h2.1 hd, Option.bind_some, e2, Option.bind_some, (x_gs g2.1).2.1, Option.bind_some, x_g1 g2.1 hd, Option.bind_some, (x_gs g2.1).2.2.2.2.2.2.2.2.2.2.2.1, Option.bind_some]
      dsimp only
      rw [er, Option.bind_some, c_reason k2 t2 h6 htV hcV, Option.bind_some]
      rw [List.drop_eq_getElem_cons hn, bPut_cons] at h9
      by_cases r0 : reaC V l[n] t = 0
      · rw [if_pos r0] at h9
        obtain ⟨a1, a2, a3, a4⟩ := reaC_0 h6 htV r0
        obtain ⟨S3, e3, t3, b3⟩ := c_insert (c := l[n]) t2 h6 htV h8 a1
        obtain ⟨g3, f3⟩ := c_draft g2 hd b3 t3.1
        have hdp := (g2.2.1.1 1 d (by omega) hd).1
        rw [if_pos r0, Option.bind_some, Option.bind_some, er, Option.bind_some, nI_add, e3, Option.bind_some, nI_1]
        refine ⟨_, rfl, rfl, g3, Fm_trans h3 (Fm_trans f2 f3), fun j c hjc => ?_, _, t3, put_ok h6 htV hcV hcn.2 h8 a1 a2 a3, h7, ?_, h9⟩
        · dsimp only
          rw [b3.2 67 (by omega), o67]
          exact h4 j c hjc
        · rw [put_kids, if_pos rfl, List.length_insertIdx_of_le_length h8]
          omega
      · rw [if_neg r0] at h9
        rw [if_neg r0, ← h9]
        exact ⟨_, rfl, S2, rfl, g2, Fm_trans h3 f2⟩)
  rw [x_oF h.1, e, Option.bind_some]
  cases eb : bPut t i U 0 l with
  | inl V =>
    rw [eb] at hr
    obtain ⟨S', rfl, q1, q2, q3, q4⟩ := hr
    exact ⟨S', rfl, q1, q2, q3, q4⟩
  | inr q =>
    rw [eb] at hr
    obtain ⟨S', rfl, q1, q2⟩ := hr
    obtain ⟨S3, e3, h3, f3⟩ := c_keepCh q1 code q.1 q.2
    simp only [Sum.elim_inl]
    rw [(x_gs q1.1).2.2.2.2.2.2.2.2.2.1, Option.bind_some, e3, Option.bind_some]
    refine ⟨S3, rfl, ?_, Fm_trans q2 f3⟩
    by_cases c : code = 30
    · rw [if_pos (Or.inl c)] at h3
      rw [if_pos c]; exact h3
    · rw [if_neg (fun z => z.elim c hcode)] at h3
      rw [if_neg c]; exact h3
/-- a move, once all is known to be there -/
theorem c_moveOk (h : CSr S A R c1 c2) (hA : aOk A) {d p f n t i : Nat} {S1 : pS} (hd : R 1 = some d) (h1 : CSr S1 A R c1 c2) (t1 : TR S1 d (aT A)) (hp : tPres (aT A) p = true) (ht : tPres (aT A) t = true) (hf : f + n ≤ (tKids (aT A) p).length) (hi : i ≤ (tKids (bPul (aT A) p f n).1 t).length) (code : Int32) (hcode : code ≠ 60) (v : Int32) (g : Int32 → String) (hg : g 3 = nUOE) (hF : Fm S S1) :
    ∃ S2, F_X9_takeBlock S1 0 (nI p) (nI f) (nI n) = some S2 ∧ CSr S2 A R c1 c2 ∧ TR S2 d (bPul (aT A) p f n).1 ∧ cC S g ((F_X9_putBlock S2 0 code (nI n) (nI t) (nI i)).bind fun q31 => if ¬ q31.1 = 0 then ((F_X9_adoptDraft q31.2 0).bind fun q33 => some (.inl (v, q33))) else (some (.inr ("java/lang/UnsupportedOperationException", q31.2)))) (stMoveOk A code p f n t i v) := by
  have hT := hA.1.1
  obtain ⟨S2, e2, h2, f2, t2, b2⟩ := c_takeBlock h1 hd t1 hT hp hf
  refine ⟨S2, e2, h2, t2, ?_⟩
  have hok := bPul_ok hT p f n
  have hpr := (bPul_pres (aT A) p f n).1
  have hbl := bPul_len (aT A) p f n
  have h12 := (hT.2.2.2.1 p hp).1
  have := c_putBlock h2 hd t2 hok b2 (by omega) (t := t) (i := i) (by rw [hpr]; exact ht) hi (fun c hc => by
    have := tOk_kid hT hp ((bPul_mem p f n hf).1 c hc)
    exact ⟨by rw [hpr]; exact this.1, this.2.1⟩) code hcode
  rw [hbl] at this
  unfold stMoveOk moveT
  cases eb : bPut t i (bPul (aT A) p f n).1 0 (bPul (aT A) p f n).2 with
  | inl V =>
    rw [eb] at this
    obtain ⟨S3, e3, h3, f3, t3, o3⟩ := this
    obtain ⟨S4, e4, h4, f4⟩ := c_adopt h3 hA hd t3 o3
    rw [e3, Option.bind_some]
    dsimp only
    rw [if_pos (by decide), e4, Option.bind_some]
    exact cC_ok (Fm_trans hF (Fm_trans f2 (Fm_trans f3 f4))) h4
  | inr q =>
    rw [eb] at this
    obtain ⟨S3, e3, h3, f3⟩ := this
    rw [e3, Option.bind_some]
    dsimp only
    rw [if_neg (fun z => z rfl)]
    exact cC_x (Fm_trans hF (Fm_trans f2 f3)) (cs_of h3) (by decide) hg
theorem c_moveBlock (h : CSr S A R c1 c2) (hA : aOk A) (p f l t i : Int32) : cC S (eN3 nIOO nUOE) (F_X9_moveBlock S 0 p f l t i) (stMove A p f l t i) := by
  unfold F_X9_moveBlock stMove
  have hT := hA.1.1
  have fail2 : cC S (eN3 nIOO nUOE) (some (.inr ("java/lang/IndexOutOfBoundsException", S))) (A, 2, 0) := cC_x (Fm_refl _) (cs_of h) (by decide) rfl
  rw [x_oF h.1, c_needItem h, Option.bind_some]
  rcases itN_c hT p with ⟨pn, hpn, rfl, hpp, e, e3⟩ | ⟨e, e3⟩
  · rw [e, e3, if_pos rfl]
    simp only [Sum.elim_inl]
    rw [c_needItem h, Option.bind_some]
    rcases itN_c hT t with ⟨tn, htn, rfl, htp, e4, e5⟩ | ⟨e4, e5⟩
    · rw [e4, e5, if_pos rfl]
      simp only [Sum.elim_inl]
      obtain ⟨tt, dd, S1, ht, hd, g0, g1, e1, h1, f1, t1, g1'⟩ := c_copyD h hA
      have hTt := cs_tr h ht
      have hp12 := (hT.2.2.2.1 pn hpp).1
      have ht12 := (hT.2.2.2.1 tn htp).1
      rw [g0, Option.bind_some, c_count hTt hpn hpp, Option.bind_some, c_needIndex h _ (by omega), Option.bind_some]
      rcases ixN_c f (n := (tKids (aT A) pn).length) (by omega) with ⟨fn, hfn, rfl, ef⟩ | ⟨ef, hf⟩
      · rw [ef, if_pos (show (some fn).isSome = true from rfl)]
        simp only [Sum.elim_inl]
        rw [g0, Option.bind_some, c_count hTt hpn hpp, Option.bind_some, c_needIndex h _ (by omega), Option.bind_some]
        rcases ixN_c l (n := (tKids (aT A) pn).length) (by omega) with ⟨ln, hln, rfl, el⟩ | ⟨el, hl⟩
        · rw [el, if_pos (show (some ln).isSome = true from rfl)]
          simp only [Sum.elim_inl]
          rcases ixN_c (nI fn) (n := ln + 1) (by omega) with ⟨fn', hfn', ef1, ef2⟩ | ⟨ef2, hf2⟩
          · have : fn = fn' := (nI_eq (by omega) (by omega)).mp ef1
            subst this
            rw [ef2, if_pos (show nI fn ≤ nI ln from nI_le (by omega) (by omega)), g0, Option.bind_some, c_count hTt htn htp, Option.bind_some]
            have hcnt : (nI ln - nI fn) + (1 : Int32) = nI (ln - fn + 1) := by rw [pk_sub (by omega), nI_1]
            rw [hcnt]
            dsimp only
            have hff : fn + (ln - fn + 1) ≤ (tKids (aT A) pn).length := by omega
            have hkt : (tKids (bPul (aT A) pn fn (ln - fn + 1)).1 tn).length = (tKids (aT A) tn).length - (if tn = pn then ln - fn + 1 else 0) := by
              by_cases d : tn = pn
              · subst d; rw [if_pos rfl]; exact bPul_p _ _ _ _ hff
              · rw [if_neg d, bPul_kids _ _ _ _ _ d]; rfl
            have main : cC S (eN3 nIOO nUOE) (F_X9_moveBlock_83 S 0 (nI pn) (nI fn) (nI tn) i (nI (ln - fn + 1)) 0 i (nI (tKids (aT A) tn).length) (nI (if tn = pn then ln - fn + 1 else 0))) (match ixN i ((tKids (aT A) tn).length - (if tn = pn then ln - fn + 1 else 0) + 1) with
                | none => (A, 2, 0)
                | some k => stMoveOk A 30 pn fn (ln - fn + 1) tn k (nI (ln - fn + 1))) := by
              unfold F_X9_moveBlock_83
              have hle : (if tn = pn then ln - fn + 1 else 0) ≤ (tKids (aT A) tn).length := by
                by_cases d : tn = pn
                · subst d; rw [if_pos rfl]; omega
                · rw [if_neg d]; omega
              rw [pk_sub hle, ← hkt]
              have hk12 : (tKids (bPul (aT A) pn fn (ln - fn + 1)).1 tn).length ≤ 12 := by rw [hkt]; omega
              rw [c_needGap h _ (by omega), Option.bind_some]
              rcases ixN_c i (n := (tKids (bPul (aT A) pn fn (ln - fn + 1)).1 tn).length + 1) (by omega) with ⟨k, hk, rfl, ek⟩ | ⟨ek, -⟩
              · rw [ek, if_pos (show (some k).isSome = true from rfl)]
                simp only [Sum.elim_inl]
                obtain ⟨S2, e6, h6, t6, m6⟩ := c_moveOk h hA hd h1 t1 hpp htp hff (show k ≤ _ by omega) 30 (by decide) (nI (ln - fn + 1)) (eN3 nIOO nUOE) rfl f1
                rw [g1, Option.bind_some, g0, Option.bind_some, e1, Option.bind_some, e6, Option.bind_some]
                exact m6
              · rw [ek, if_neg (show ¬ (none : Option Nat).isSome = true by decide)]
                simp only [Sum.elim_inr]
                exact fail2
            by_cases d : tn = pn
            · rw [if_neg (fun z => z (by rw [d]))]
              rw [if_pos d] at main ⊢
              exact main
            · rw [if_pos (fun z => d ((nI_eq (by omega) (by omega)).mp z))]
              rw [if_neg d] at main ⊢
              exact main
          · rw [ef2]
            have : ¬ nI fn ≤ nI ln := by
              rcases hf2 with z | z
              · exact absurd z (nI_pos (by omega))
              · have := (nI_leI (by omega) (by omega)).mp z
                exact nI_ge (by omega) (by omega)
            rw [if_neg this]
            exact fail2
        · rw [el, if_neg (show ¬ (none : Option Nat).isSome = true by decide)]
          simp only [Sum.elim_inr]
          exact fail2
      · rw [ef, if_neg (show ¬ (none : Option Nat).isSome = true by decide)]
        simp only [Sum.elim_inr]
        rcases ixN_c l (n := (tKids (aT A) pn).length) (by omega) with ⟨ln, hln, rfl, el⟩ | ⟨el, hl⟩
        · rw [el]
          dsimp only
          rcases ixN_c f (n := ln + 1) (by omega) with ⟨fn', hfn', rfl, ef2⟩ | ⟨ef2, hf2⟩
          · exfalso
            rcases hf with z | z
            · exact nI_pos (by omega) z
            · have := (nI_leI (by omega) (by omega)).mp z
              omega
          · rw [ef2]; exact fail2
        · rw [el]; exact fail2
    · rw [e4, e5, if_neg (by decide)]
      simp only [Sum.elim_inr]
      exact cC_x (Fm_refl _) (cs_of h) (by decide) rfl
  · rw [e, e3, if_neg (by decide)]
    simp only [Sum.elim_inr]
    exact cC_x (Fm_refl _) (cs_of h) (by decide) rfl
end CMV
