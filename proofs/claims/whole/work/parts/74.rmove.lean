/-! moves of the reference -/
section RMV
variable {S : pS} {m : Nat} {T : Tr} {A : As}
theorem char_narrow {x : Int32} (h : 97 ≤ x ∧ x ≤ 122) : (x.toUInt32 % 65536).toInt32 = x := by
  obtain ⟨j, hj, rfl⟩ := nI_of2 (M := 122) (n := 122) rfl (x := x) (by have := h.1; intro z; exact absurd (fa9_lt z this) (by decide)) h.2
  rw [pk_char, pk_tn (by omega), Nat.mod_eq_of_lt (by omega)]
theorem r_letter (h : RS S m A) (hA : aOk A) (x y : Int32) : rC S m (F_X10_letter S m x y) (stLetter A x y) := by
  unfold F_X10_letter stLetter
  have hT := hA.1.1
  have fail : ∀ v : Int32, v = nI 1 ∨ v = nI 2 → rC S m (F_X10_letter_38 S m x y m v) (A, v, 0) := by
    intro v hv
    unfold F_X10_letter_38
    obtain ⟨S1, e1, h1, m1, t1⟩ := r_start h v
    rw [e1, Option.bind_some, s10_g0 h1.1.1, Option.bind_some, t1, if_neg (by rcases hv with z | z <;> rw [z] <;> decide)]
    have e0 : oC (0 : Int32) = some 0 := rfl
    rw [e0, Option.bind_some]
    exact ⟨_, _, rfl, h1, Bk_MR m1, t1, fun _ => rfl⟩
  rw [s10_oF h.1.1, r_isOther h.1, Option.bind_some]
  by_cases c : x = 0
  · rw [itp4 (fun z => z.1 c), if_pos c]
    exact fail 1 (Or.inl rfl)
  · rw [if_neg c]
    rcases itN_c hT x with ⟨i, hi, rfl, hp, e, e3⟩ | ⟨e, e3⟩
    · rw [e, itp5 (c := nI i ≠ 0 ∧ itm (aT A) (nI i) = true) ⟨c, e3⟩]
      dsimp only
      have h10 := (hT.2.2.2.2.1 i hp).1
      rw [s10_g1 h.1.1, Option.bind_some, li_245, nI_add, s10_r1 h.1.1 (by omega), Option.bind_some, (h.1.2.2.2 i hp).2.2.2.1, in_ix _ _ (by omega), Option.bind_some]
      rcases ixN_c y (n := (tName (aT A) i).length) (by omega) with ⟨j, hj, rfl, ej⟩ | ⟨ej, -⟩
      · rw [ej, ite5 (b := (some j).isSome) rfl]
        unfold F_X10_letter_38
        obtain ⟨S1, e1, h1, m1, t1⟩ := r_start h 0
        have hx := List.getElem?_eq_getElem hj
        have hch := (hT.2.2.2.2.1 i hp).2 _ (List.getElem_mem hj)
        rw [e1, Option.bind_some, s10_g0 h1.1.1, Option.bind_some, t1, if_pos (Int32.le_refl _), s10_g1 h1.1.1, Option.bind_some, li_306, li_10, pk_mul, nI_add, nI_add, s10_r1 h1.1.1 (by omega), Option.bind_some, show 306 + 10 * i + j = 306 + (10 * i + j) by omega, (h1.1.2.2.2 i hp).2.2.2.2.1 j _ hx, char_narrow hch, oC_ok hch, Option.bind_some]
        refine ⟨_, _, rfl, h1, Bk_MR m1, t1, fun _ => ?_⟩
        show _ = (tName (aT A) i).getD j 0
        rw [List.getD_eq_getElem?_getD, hx]; rfl
      · rw [ej, ite4 (b := (none : Option Nat).isSome) rfl]
        exact fail 2 (Or.inr rfl)
    · rw [e, itp4 (fun z => by rw [e3] at z; cases z.2)]
      exact fail 1 (Or.inl rfl)
theorem r_isBelow (h : RS S m A) (hA : aOk A) (x y : Int32) : rC S m (F_X10_isBelow S m x y) (stBelow A x y) := by
  unfold F_X10_isBelow stBelow
  have hT := hA.1.1
  have fail : rC S m (F_X10_isBelow_21 S m x y m) (A, 1, 0) := by
    unfold F_X10_isBelow_21 F_X10_isBelow_22
    obtain ⟨S1, e1, h1, m1, t1⟩ := r_start h 1
    rw [e1, Option.bind_some, s10_g0 h1.1.1, Option.bind_some, t1, if_neg (by decide)]
    exact ⟨_, _, rfl, h1, Bk_MR m1, t1, fun _ => rfl⟩
  rw [s10_oF h.1.1, r_isItem h.1, Option.bind_some]
  rcases itN_c hT x with ⟨i, hi, rfl, hp, e, e3⟩ | ⟨e, e3⟩
  · rw [e, e3, ite1 rfl, r_isItem h.1, Option.bind_some]
    dsimp only
    rcases itN_c hT y with ⟨j, hj, rfl, hq, e2, e4⟩ | ⟨e2, e4⟩
    · rw [e2, e4, ite1 rfl]
      unfold F_X10_isBelow_22
      obtain ⟨S1, e1, h1, m1, t1⟩ := r_start h 0
      obtain ⟨S2, e5, m2, k2⟩ := r_knows h1.1 hT
      rw [e1, Option.bind_some, s10_g0 h1.1.1, Option.bind_some, t1, if_pos (Int32.le_refl _), e5, Option.bind_some, r_isUnder m2.1 k2 hi hj, Option.bind_some, oZ_b, Option.bind_some]
      exact ⟨_, _, rfl, RS_fr h1 m2 (by decide) (by decide) (by decide), Bk_trans (Bk_MR m1) (Bk_MR m2), by rw [m2.2.2.2.2 0 (by decide)]; exact t1, fun _ => rfl⟩
    · rw [e2, e4, ite0 rfl]
      exact fail
  · rw [e, e3, ite0 rfl]
    exact fail
theorem rC_refuse {S0 : pS} (hb : Bk S0 S m 41) (h : RS S m A) (code r : Int32) (n : Option Nat) (hn : ∀ k, n = some k → k < 1000) (v w : Int32) (hv : v ≠ 0) : rC S0 m ((F_X10_refuses S m code (refN n) r).bind fun q => (F_X10_fails q.2 m v).bind fun q => some (q.1, q.2)) (aSetCh A (refL code r n), v, w) := by
  obtain ⟨S1, e1, h1, b1⟩ := r_refuses h code n hn r
  rw [e1, Option.bind_some]
  exact rC_fail (Bk_trans hb b1) h1 v w hv
theorem rC_refuseN {S0 : pS} (hb : Bk S0 S m 41) (h : RS S m A) (code r : Int32) (v w : Int32) (hv : v ≠ 0) : rC S0 m ((F_X10_refuses S m code (-1 : Int32) r).bind fun q => (F_X10_fails q.2 m v).bind fun q => some (q.1, q.2)) (aSetCh A [code, r], v, w) :=
  rC_refuse hb h code r none (fun k z => by cases z) v w hv
theorem r_clone (h : RS S m A) (hA : aOk A) (x p i : Int32) : rC S m (F_X10_clone S m x p i) (stClone A x p i) := by
  unfold F_X10_clone stClone
  have hT := hA.1.1
  obtain ⟨S1, e1, h1, m1, t1⟩ := r_start h 0
  obtain ⟨S2, e2, h2, m2, f2⟩ := r_rem h1 hA
  have b2 : Bk S S2 m 41 := Bk_trans (Bk_MR m1) (Bk_MR m2)
  have t2 : fI (S2.2 m) 0 = 0 := by rw [m2.2.2.2.2 0 (by simp)]; exact t1
  rw [s10_oF h.1.1, e1, Option.bind_some, e2, Option.bind_some, r_isOther h2.1, Option.bind_some]
  have fail : rC S m (F_X10_clone_25 S2 m) (A, 1, 0) := by
    unfold F_X10_clone_25
    exact rC_fail b2 h2 1 0 (by decide)
  by_cases c0 : x = 0
  · rw [itp0 (fun z => z.1 c0), if_pos c0]; exact fail
  · rw [if_neg c0]
    rcases itN_c hT x with ⟨c, hc, rfl, hcp, e, e3⟩ | ⟨e, e3⟩
    · rw [e, itp1 (c := nI c ≠ 0 ∧ itm (aT A) (nI c) = true) ⟨c0, e3⟩, r_isItem h2.1, Option.bind_some]
      dsimp only
      have hc0 : c ≠ 0 := fun z => c0 (by rw [z]; rfl)
      rcases itN_c hT p with ⟨q, hq, rfl, hqp, e4, e5⟩ | ⟨e4, e5⟩
      · rw [e4, e5, ite5 rfl]
        dsimp only
        have h12 := (hT.2.2.2.1 q hqp).1
        rw [s10_g1 h2.1.1, Option.bind_some, li_916, nI_add, s10_r1 h2.1.1 (by omega), Option.bind_some, r_many h2.1 hqp, in_gap _ _ (by omega), Option.bind_some]
        rcases ixN_c i (n := (tKids (aT A) q).length + 1) (by omega) with ⟨k, hk, rfl, ek⟩ | ⟨ek, -⟩
        · rw [ek, ite5 (b := (some k).isSome) rfl]
          dsimp only
          obtain ⟨S3, e6, m3, k3⟩ := r_reason h2.1 hT hqp hcp
          have h3 := RS_fr h2 m3 (by decide) (by decide) (by decide)
          rw [e6, Option.bind_some]
          dsimp only
          by_cases r0 : reaC (aT A) c q = 0
          · rw [if_pos ((reaC_le _ _ _).mpr r0), if_pos r0]
            obtain ⟨a1, a2, a3, a4⟩ := reaC_0 hT hqp r0
            obtain ⟨S4, e7, r4, m4⟩ := r_puts h3.1 hT (c := c) hqp (show k ≤ (tKids (aT A) q).length by omega) a1
            have hok := put_ok hT hqp hcp hc0 (show k ≤ (tKids (aT A) q).length by omega) a1 a2 a3
            have f3 : RT (cI (S3.2 (m + 3))) (aT A) := by rw [m3.2.2.2.1 3 (by decide) (by decide)]; exact f2
            obtain ⟨S5, e8, h5, b5, t5⟩ := r_change h3 hA f3 m4 (by decide) (by decide) r4 hok
            obtain ⟨S6, e9, m6, k6⟩ := r_knows h5.1 hok
            rw [e7, Option.bind_some, e8, Option.bind_some, e9, Option.bind_some, s10_g16 m6.1, Option.bind_some, s10_r16 m6.1 hc, Option.bind_some, (k6.2.2 c hc).1]
            exact ⟨_, _, rfl, RS_fr h5 m6 (by decide) (by decide) (by decide), Bk_trans b2 (Bk_trans (Bk_MR m3) (Bk_trans b5 (Bk_MR m6))), by rw [m6.2.2.2.2 0 (by decide), t5, m4.2.2.2.2 0 (by simp), m3.2.2.2.2 0 (by decide)]; exact t2, fun _ => rfl⟩
          · rw [if_neg (fun z => r0 ((reaC_le _ _ _).mp z)), if_neg r0]
            exact rC_refuseN (Bk_trans b2 (Bk_MR m3)) h3 20 _ 3 0 (by decide)
        · rw [ek, ite4 (b := (none : Option Nat).isSome) rfl]
          exact rC_fail b2 h2 2 0 (by decide)
      · rw [e4, e5, ite4 rfl]; exact fail
    · rw [e, itp0 (fun z => by rw [e3] at z; cases z.2)]; exact fail
theorem r_detach (h : RS S m A) (hA : aOk A) (p i : Int32) : rC S m (F_X10_detach S m p i) (stDetach A p i) := by
  unfold F_X10_detach stDetach
  have hT := hA.1.1
  obtain ⟨S1, e1, h1, m1, t1⟩ := r_start h 0
  obtain ⟨S2, e2, h2, m2, f2⟩ := r_rem h1 hA
  have b2 : Bk S S2 m 41 := Bk_trans (Bk_MR m1) (Bk_MR m2)
  have t2 : fI (S2.2 m) 0 = 0 := by rw [m2.2.2.2.2 0 (by simp)]; exact t1
  rw [s10_oF h.1.1, e1, Option.bind_some, e2, Option.bind_some, r_isItem h2.1, Option.bind_some]
  rcases itN_c hT p with ⟨q, hq, rfl, hqp, e, e3⟩ | ⟨e, e3⟩
  · rw [e, e3, ite5 rfl]
    dsimp only
    have h12 := (hT.2.2.2.1 q hqp).1
    rw [s10_g1 h2.1.1, Option.bind_some, li_916, nI_add, s10_r1 h2.1.1 (by omega), Option.bind_some, r_many h2.1 hqp, in_ix _ _ (by omega), Option.bind_some]
    rcases ixN_c i (n := (tKids (aT A) q).length) (by omega) with ⟨k, hk, rfl, ek⟩ | ⟨ek, -⟩
    · rw [ek, ite5 (b := (some k).isSome) rfl]
      dsimp only
      obtain ⟨S3, e4, r3, m3⟩ := r_pulls h2.1 hT hqp (List.getElem?_eq_getElem hk)
      have hok := pull_ok hT q k
      obtain ⟨S4, e5, m4, r4⟩ := r_removes r3 hok
      have mm : MR S2 S4 m [1, 8, 9, 10, 11, 12, 13] [20] := MR_trans (MR_sub m3 (by decide) (by decide)) m4
      obtain ⟨S5, e6, h5, b5, t5⟩ := r_change h2 hA f2 mm (by decide) (by decide) r4 (keep_ok hok)
      rw [e4, Option.bind_some, e5, Option.bind_some, e6, Option.bind_some]
      exact ⟨_, _, rfl, h5, Bk_trans b2 b5, by rw [t5, mm.2.2.2.2 0 (by decide)]; exact t2, fun _ => rfl⟩
    · rw [ek, ite4 (b := (none : Option Nat).isSome) rfl]
      exact rC_fail b2 h2 2 0 (by decide)
  · rw [e, e3, ite4 rfl]
    exact rC_fail b2 h2 1 0 (by decide)
/-! blocks -/
theorem r_block (h : RR S m T) (hT : tOk T) {p f n : Nat} (hp : tPres T p = true) (hf : f + n ≤ (tKids T p).length) (l4 l5 : Int32) : ∃ S', iter (F_X10_moveBlock_110 m (nI p) (nI f) l4 l5 (nI n)) fu ((0 : Int32), S) = some S' ∧ MR S S' m [1, 14] [] ∧ RR S' m (bPul T p f n).1 ∧ ∀ j c, (bPul T p f n).2[j]? = some c → cI (S'.2 (m + 14)) j = nI c := by
  have h12 := (hT.2.2.2.1 p hp).1
  exact iter_fu (F := F_X10_moveBlock_110 m (nI p) (nI f) l4 l5 (nI n)) (s := ((0 : Int32), S)) (fun k s => s.1 = nI k ∧ MR S s.2 m [1, 14] [] ∧ RR s.2 m (bPul T p f k).1 ∧ ∀ j c, (bPul T p f k).2[j]? = some c → cI (s.2.2 (m + 14)) j = nI c) n (by omega) ⟨rfl, MR_refl h.1 _ _, h, fun j c hc => by have hc' : ([] : List Nat)[j]? = some c := hc; simp at hc'⟩
    (by
      rintro ⟨b, S1⟩ ⟨h1, h2, h3, h4⟩
      dsimp only at h1 h2 h3 h4
      subst h1
      unfold F_X10_moveBlock_110
      rw [if_pos (Int32.le_refl _)]
      exact ⟨_, rfl, h2, h3, h4⟩)
    (by
      rintro k ⟨b, S1⟩ hk ⟨h1, h2, h3, h4⟩
      dsimp only at h1 h2 h3 h4
      subst h1
      have hok := bPul_ok hT p f k
      have hl := bPul_p T p f k (by omega)
      have hfl : f < (tKids (bPul T p f k).1 p).length := by rw [hl]; omega
      have hpp : tPres (bPul T p f k).1 p = true := by rw [(bPul_pres T p f k).1]; exact hp
      obtain ⟨S2, e2, r2, m2⟩ := r_pulls h3 hok hpp (List.getElem?_eq_getElem hfl)
      unfold F_X10_moveBlock_110
      rw [if_neg (nI_ge hk (by omega)), s10_g24 h2.1, Option.bind_some]
      dsimp only
      rw [e2, Option.bind_some, s10_w24 r2.1 (by omega), Option.bind_some, nI_1]
      have x3 := sh_wI r2.1 (m + 14) k (nI (tKids (bPul T p f k).1 p)[f])
      have m3 : MR S1 (wI S2 (m + 14) k (nI (tKids (bPul T p f k).1 p)[f])) m [1, 14] [] := MR_I (MR_sub m2 (by decide) (by decide)) (by simp) (by decide) (by decide) _ _
      refine ⟨_, rfl, rfl, MR_trans h2 m3, ⟨x3, ?_⟩, fun j c hc => ?_⟩
      · dsimp only
        rw [wI_ne _ _ _ (show m + 1 ≠ m + 14 by omega)]
        exact r2.2
      · dsimp only at hc ⊢
        rw [s10_v24 r2.1, m2.2.2.2.1 14 (by decide) (by decide)]
        have hc' : ((bPul T p f k).2 ++ [(tKids (bPul T p f k).1 p).getD f 0])[j]? = some c := hc
        have hbl := bPul_len T p f k
        by_cases d : j = k
        · subst d
          rw [List.getElem?_append_right (by omega), hbl, Nat.sub_self] at hc'
          have : (tKids (bPul T p f j).1 p).getD f 0 = c := by simpa using hc'
          rw [pu_at, ← this, List.getD_eq_getElem?_getD, List.getElem?_eq_getElem hfl]; rfl
        · rw [pu_ne _ _ _ d]
          apply h4
          rw [List.getElem?_append] at hc'
          by_cases l : j < (bPul T p f k).2.length
          · rw [if_pos l] at hc'; exact hc'
          · rw [if_neg l] at hc'
            have := (List.getElem?_eq_some_iff.mp hc').1
            rw [List.length_singleton] at this
            omega)
theorem r_putB {l : List Nat} (hb : ∀ j c, l[j]? = some c → cI (S.2 (m + 14)) j = nI c) (hl : l.length ≤ 12) (h : RR S m T) (hT : tOk T) {t i : Nat} (ht : tPres T t = true) (hi : i ≤ (tKids T t).length) (hc : ∀ c, c ∈ l → tPres T c = true ∧ c ≠ 0) :
    ∃ r, iter (F_X10_moveBlock_139 m (nI t) (nI i) (nI l.length)) fu ((0 : Int32), S) = some r ∧ match bPut t i T 0 l with
      | .inl T' => ∃ S', r = .inr S' ∧ MR S S' m [1, 8, 9, 10, 11, 12, 13] [20] ∧ RR S' m T' ∧ tOk T'
      | .inr q => ∃ S', r = .inl (nI q.1, q.2, S') ∧ MR S S' m [1, 8, 9, 10, 11, 12, 13] [20] ∧ q.1 < 12 := by
  have h12 := (hT.2.2.2.1 t ht).1
  refine iter_fu (F := F_X10_moveBlock_139 m (nI t) (nI i) (nI l.length)) (s := ((0 : Int32), S)) (fun n s => s.1 = nI n ∧ MR S s.2 m [1, 8, 9, 10, 11, 12, 13] [20] ∧ ∃ U, RR s.2 m U ∧ tOk U ∧ tPres U = tPres T ∧ i + n ≤ (tKids U t).length ∧ bPut t i U n (l.drop n) = bPut t i T 0 l) l.length (by omega) ⟨rfl, MR_refl h.1 _ _, T, h, hT, rfl, hi, by rw [List.drop_zero]⟩ ?_ ?_
  · rintro ⟨b, S1⟩ ⟨h1, h2, U, h3, h4, h5, h6, h7⟩
    dsimp only at h1 h2 h3
    subst h1
    unfold F_X10_moveBlock_139
    rw [if_pos (Int32.le_refl _)]
    rw [List.drop_length] at h7
    have h7' : (Sum.inl U : Tr ⊕ (Nat × Int32)) = bPut t i T 0 l := h7
    rw [← h7']
    exact ⟨_, rfl, S1, rfl, h2, h3, h4⟩
  · rintro n ⟨b, S1⟩ hn ⟨h1, h2, U, h3, h4, h5, h6, h7⟩
    dsimp only at h1 h2 h3
    subst h1
    have hcn := hc _ (List.getElem_mem hn)
    have hcU : tPres U l[n] = true := by rw [h5]; exact hcn.1
    have htU : tPres U t = true := by rw [h5]; exact ht
    have hbn : cI (S1.2 (m + 14)) n = nI l[n] := by rw [h2.2.2.2.1 14 (by decide) (by decide)]; exact hb n _ (List.getElem?_eq_getElem hn)
    obtain ⟨S2, e2, m2, k2⟩ := r_reason h3 h4 htU hcU
    unfold F_X10_moveBlock_139
    rw [if_neg (nI_ge hn (by omega)), s10_g24 h2.1, Option.bind_some]
    dsimp only
    rw [s10_r24 h2.1 (by omega), Option.bind_some, hbn, e2, Option.bind_some]
    dsimp only
    rw [List.drop_eq_getElem_cons hn] at h7
    rw [bPut_cons] at h7
    have m12 : MR S S2 m [1, 8, 9, 10, 11, 12, 13] [20] := MR_trans h2 (MR_sub m2 (by decide) (by decide))
    by_cases r0 : reaC U l[n] t = 0
    · rw [if_pos r0] at h7
      obtain ⟨a1, a2, a3, a4⟩ := reaC_0 h4 htU r0
      obtain ⟨S3, e3, r3, m3⟩ := r_puts (MR_RR m2 (by decide) h3) h4 (c := l[n]) htU h6 a1
      rw [if_pos ((reaC_le _ _ _).mpr r0), s10_g24 m2.1, Option.bind_some, s10_r24 m2.1 (by omega), Option.bind_some, m2.2.2.2.1 14 (by decide) (by decide), hbn, nI_add, e3, Option.bind_some, nI_1]
      refine ⟨_, rfl, rfl, MR_trans m12 (MR_sub m3 (by decide) (by decide)), _, r3, put_ok h4 htU hcU hcn.2 h6 a1 a2 a3, h5, ?_, h7⟩
      rw [put_kids, if_pos rfl, List.length_insertIdx_of_le_length h6]
      omega
    · rw [if_neg r0] at h7
      rw [if_neg (fun z => r0 ((reaC_le _ _ _).mp z)), ← h7]
      exact ⟨_, rfl, S2, rfl, m12, by show n < 12; omega⟩
theorem r_moveBlock (h : RS S m A) (hA : aOk A) (p f l t i : Int32) : rC S m (F_X10_moveBlock S m p f l t i) (stMove A p f l t i) := by
  unfold F_X10_moveBlock stMove
  have hT := hA.1.1
  obtain ⟨S1, e1, h1, m1, t1⟩ := r_start h 0
  obtain ⟨S2, e2, h2, m2, f2⟩ := r_rem h1 hA
  have b2 : Bk S S2 m 41 := Bk_trans (Bk_MR m1) (Bk_MR m2)
  have t2 : fI (S2.2 m) 0 = 0 := by rw [m2.2.2.2.2 0 (by simp)]; exact t1
  rw [s10_oF h.1.1, e1, Option.bind_some, e2, Option.bind_some, r_isItem h2.1, Option.bind_some]
  have fail1 : rC S m (F_X10_moveBlock_26 S2 m) (A, 1, 0) := rC_fail b2 h2 1 0 (by decide)
  have fail2 : rC S m (F_X10_moveBlock_55 S2 m) (A, 2, 0) := rC_fail b2 h2 2 0 (by decide)
  rcases itN_c hT p with ⟨pn, hpn, rfl, hpp, e, e3⟩ | ⟨e, e3⟩
  · rw [e, e3, ite1 rfl, r_isItem h2.1, Option.bind_some]
    dsimp only
    rcases itN_c hT t with ⟨tn, htn, rfl, htp, e4, e5⟩ | ⟨e4, e5⟩
    · rw [e4, e5, ite5 rfl]
      dsimp only
      have hp12 := (hT.2.2.2.1 pn hpp).1
      have ht12 := (hT.2.2.2.1 tn htp).1
      rw [s10_g1 h2.1.1, in_eq, Option.bind_some, Option.bind_some, li_916, nI_add, nI_add, s10_r1 h2.1.1 (by omega), Option.bind_some, r_many h2.1 hpp]
      rcases ixN_c l (n := (tKids (aT A) pn).length) (by omega) with ⟨ln, hln, rfl, el⟩ | ⟨el, hl⟩
      · rw [el]
        dsimp only
        rcases ixN_c f (n := ln + 1) (by omega) with ⟨fn, hfn, rfl, ef⟩ | ⟨ef, hf⟩
        · rw [itp1 (c := ¬ nI fn < 0 ∧ ¬ nI ln < nI fn) ⟨nI_pos (by omega), nI_nlt (by omega) (by omega)⟩, if_pos (nI_lt hln (by omega)), Option.bind_some, s10_r1 h2.1.1 (by omega), Option.bind_some, r_many h2.1 htp, ef]
          dsimp only
          have hcnt : (nI ln - nI fn) + (1 : Int32) = nI (ln - fn + 1) := by rw [pk_sub (by omega), nI_1]
          rw [hcnt]
          have hff : fn + (ln - fn + 1) ≤ (tKids (aT A) pn).length := by omega
          -- the children of the other item when they are taken away
          have hkt : (tKids (bPul (aT A) pn fn (ln - fn + 1)).1 tn).length = (tKids (aT A) tn).length - (if tn = pn then ln - fn + 1 else 0) := by
            by_cases d : tn = pn
            · subst d; rw [if_pos rfl]; exact bPul_p _ _ _ _ hff
            · rw [if_neg d, bPul_kids _ _ _ _ _ d]; rfl
          have main : rC S m (F_X10_moveBlock_94 S2 m (nI pn) (nI fn) (nI tn) i (nI (ln - fn + 1)) i (0 : Int32) (nI (tKids (aT A) tn).length) (nI (if tn = pn then ln - fn + 1 else 0))) (match ixN i ((tKids (aT A) tn).length - (if tn = pn then ln - fn + 1 else 0) + 1) with
              | none => (A, 2, 0)
              | some k => stMoveOk A 30 pn fn (ln - fn + 1) tn k (nI (ln - fn + 1))) := by
            unfold F_X10_moveBlock_94
            have hle : (if tn = pn then ln - fn + 1 else 0) ≤ (tKids (aT A) tn).length := by
              by_cases d : tn = pn
              · subst d; rw [if_pos rfl]; omega
              · rw [if_neg d]; omega
            rw [pk_sub hle, ← hkt]
            have hk12 : (tKids (bPul (aT A) pn fn (ln - fn + 1)).1 tn).length ≤ 12 := by rw [hkt]; omega
            rw [in_gap _ _ (by omega), Option.bind_some]
            rcases ixN_c i (n := (tKids (bPul (aT A) pn fn (ln - fn + 1)).1 tn).length + 1) (by omega) with ⟨k, hk, rfl, ek⟩ | ⟨ek, -⟩
            · rw [ek, ite5 (b := (some k).isSome) rfl]
              dsimp only
              obtain ⟨S3, e6, m3, r3, b3⟩ := r_block h2.1 hT hpp hff (nI tn) (nI k)
              rw [e6, Option.bind_some]
              have hok := bPul_ok hT pn fn (ln - fn + 1)
              have hpr := (bPul_pres (aT A) pn fn (ln - fn + 1)).1
              have hbl := bPul_len (aT A) pn fn (ln - fn + 1)
              obtain ⟨r, e7, hr⟩ := r_putB b3 (by omega) r3 hok (t := tn) (i := k) (by rw [hpr]; exact htp) (by omega) (fun c hc => by
                have := tOk_kid hT hpp ((bPul_mem pn fn (ln - fn + 1) hff).1 c hc)
                exact ⟨by rw [hpr]; exact this.1, this.2.1⟩)
              rw [hbl] at e7
              rw [e7, Option.bind_some]
              unfold stMoveOk moveT
              cases eb : bPut tn k (bPul (aT A) pn fn (ln - fn + 1)).1 0 (bPul (aT A) pn fn (ln - fn + 1)).2 with
              | inl T' =>
                rw [eb] at hr
                obtain ⟨S4, rfl, m4, r4, o4⟩ := hr
                have mm : MR S2 S4 m [1, 14, 8, 9, 10, 11, 12, 13] [20] := MR_trans (MR_sub m3 (by decide) (by decide)) (MR_sub m4 (by decide) (by decide))
                obtain ⟨S5, e8, h5, b5, t5⟩ := r_change h2 hA f2 mm (by decide) (by decide) r4 o4
                simp only [Sum.elim_inr]
                rw [e8, Option.bind_some]
                exact ⟨_, _, rfl, h5, Bk_trans b2 b5, by rw [t5, mm.2.2.2.2 0 (by decide)]; exact t2, fun _ => rfl⟩
              | inr q =>
                rw [eb] at hr
                obtain ⟨S4, rfl, m4, q12⟩ := hr
                have mm : MR S2 S4 m [1, 14, 8, 9, 10, 11, 12, 13] [20] := MR_trans (MR_sub m3 (by decide) (by decide)) (MR_sub m4 (by decide) (by decide))
                obtain ⟨S5, e8, x5, d5, c5⟩ := r_takesBack m4.1
                have m5 := MR_ofMd x5 d5 (by decide) (by decide)
                have h5 : RS S5 m A := by
                  refine ⟨⟨x5, RT_eq ?_ hT c5⟩, RX_fr (RX_fr h2.2 mm (by decide) (by decide)) m5 (by decide) (by decide)⟩
                  rw [mm.2.2.2.1 3 (by decide) (by decide)]
                  exact f2
                simp only [Sum.elim_inl]
                rw [e8, Option.bind_some]
                rw [if_pos trivial]
                exact rC_refuse (Bk_trans b2 (Bk_trans (Bk_MR mm) (Bk_MR m5))) h5 30 q.2 (some q.1) (fun k z => by cases z; omega) 3 0 (by decide)
            · rw [ek, ite4 (b := (none : Option Nat).isSome) rfl]
              exact rC_fail b2 h2 2 0 (by decide)
          by_cases d : tn = pn
          · rw [if_neg (fun z => z (by rw [d]))]
            rw [if_pos d] at main ⊢
            exact main
          · rw [if_pos (fun z => d ((nI_eq (by omega) (by omega)).mp z))]
            rw [if_neg d] at main ⊢
            exact main
        · rw [itp0 (c := ¬ f < 0 ∧ ¬ nI ln < f), ef]
          · exact fail2
          · rintro ⟨z1, z2⟩
            rcases hf with z | z
            · exact z1 z
            · obtain ⟨j, hj, rfl⟩ := nI_of z1
              have := (nI_leI (by omega) hj).mp z
              exact z2 (nI_lt (by omega) hj)
      · rw [el]
        by_cases c : ¬ f < 0 ∧ ¬ l < f
        · rw [itp1 c]
          rcases hl with z | z
          · exfalso
            refine c.2 ?_
            rw [Int32.lt_iff_toInt_lt] at z ⊢
            have := c.1
            rw [Int32.lt_iff_toInt_lt] at this
            have e0 : (0 : Int32).toInt = 0 := rfl
            rw [e0] at z this
            omega
          · rw [if_neg (Int32.not_lt.mpr z)]
            exact fail2
        · rw [itp0 c]
          exact fail2
    · rw [e4, e5, ite4 rfl]
      exact fail1
  · rw [e, e3, ite0 rfl]
    exact fail1
end RMV
