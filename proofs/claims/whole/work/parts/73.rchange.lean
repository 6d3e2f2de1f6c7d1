/-! changes of the reference -/
def stClone (A : As) (x p i : Int32) : Rs := if x = 0 then (A, 1, 0) else match itN (aT A) x with
  | none => (A, 1, 0)
  | some c => match itN (aT A) p with
    | none => (A, 1, 0)
    | some q => match ixN i ((tKids (aT A) q).length + 1) with
      | none => (A, 2, 0)
      | some k => if reaC (aT A) c q = 0 then (aKeep A (tPut (aT A) q k c), 0, nI (plcT (tPut (aT A) q k c) c)) else (aSetCh A [20, reaC (aT A) c q], 3, 0)
def stDetach (A : As) (p i : Int32) : Rs := match itN (aT A) p with
  | none => (A, 1, 0)
  | some q => match ixN i (tKids (aT A) q).length with
    | none => (A, 2, 0)
    | some k => (aKeep A (tKeep (tPull (aT A) q k) (lb (famT (tPull (aT A) q k) 0))), 0, nI (cntB fun i => tPres (aT A) i && !lb (famT (tPull (aT A) q k) 0) i))
def stMoveOk (A : As) (code : Int32) (p f n t i : Nat) (v : Int32) : Rs := match moveT (aT A) p f n t i with
  | .inl T' => (aKeep A T', 0, v)
  | .inr q => (aSetCh A (if code = 30 then [code, 100 + nI q.1, q.2] else [code, q.2]), 3, 0)
def stMove (A : As) (p f l t i : Int32) : Rs := match itN (aT A) p with
  | none => (A, 1, 0)
  | some pn => match itN (aT A) t with
    | none => (A, 1, 0)
    | some tn => match ixN l (tKids (aT A) pn).length with
      | none => (A, 2, 0)
      | some ln => match ixN f (ln + 1) with
        | none => (A, 2, 0)
        | some fn => match ixN i ((tKids (aT A) tn).length - (if tn = pn then ln - fn + 1 else 0) + 1) with
          | none => (A, 2, 0)
          | some k => stMoveOk A 30 pn fn (ln - fn + 1) tn k (nI (ln - fn + 1))
theorem reaC_le (T : Tr) (c p : Nat) : (reaC T c p ≤ 0) ↔ reaC T c p = 0 := by
  unfold reaC reaP
  constructor
  · intro h
    split at h <;> first | exact absurd h (by decide) | skip
    split at h <;> first | exact absurd h (by decide) | skip
    split at h <;> first | exact absurd h (by decide) | skip
    split at h <;> first | exact absurd h (by decide) | skip
    rename_i h1 h2 h3 h4
    rw [if_neg h1, if_neg h2, if_neg h3, if_pos h4]
  · intro h; rw [h]; decide
theorem reaN_le (T : Tr) (p : Nat) : (reaN T p ≤ 0) ↔ reaN T p = 0 := by
  unfold reaN reaP
  constructor
  · intro h
    split at h <;> first | exact absurd h (by decide) | skip
    split at h <;> first | exact absurd h (by decide) | skip
    rename_i h1 h4
    rw [if_neg h1, if_pos h4]
  · intro h; rw [h]; decide
def refN (n : Option Nat) : Int32 := match n with
  | none => -1
  | some k => nI k
def refL (code r : Int32) (n : Option Nat) : List Int32 := match n with
  | none => [code, r]
  | some k => [code, 100 + nI k, r]
section RCH
variable {S : pS} {m : Nat} {T : Tr} {A : As}
theorem r_rem (h : RS S m A) (hA : aOk A) : ∃ S', F_X10_remembers S m = some S' ∧ RS S' m A ∧ MR S S' m [3] [] ∧ RT (cI (S'.2 (m + 3))) (aT A) := by
  obtain ⟨S', e, h1, h2, h3⟩ := r_remembers h.1.1
  have mm := MR_ofMd h1 h2 (by decide) (by decide)
  exact ⟨S', e, RS_fr h mm (by decide) (by decide) (by decide), mm, RT_eq h.1.2 hA.1.1 h3⟩
theorem r_change {S2 : pS} {L ks : List Nat} (h : RS S m A) (hA : aOk A) (hf : RT (cI (S.2 (m + 3))) (aT A)) (mm : MR S S2 m L ks) (hL : ∀ j, j ∈ L → j ∉ 3 :: rxL) (hk : ∀ k, k ∈ ks → k ∉ rxK) (hR : RR S2 m T) (hT : tOk T) :
    ∃ S', F_X10_keeps S2 m = some S' ∧ RS S' m (aKeep A T) ∧ Bk S S' m 41 ∧ fI (S'.2 m) 0 = fI (S2.2 m) 0 := by
  have hX := RX_fr h.2 mm (fun j hj z => hL j hj (List.mem_cons_of_mem _ z)) hk
  obtain ⟨S', e, m2, h2⟩ := r_keeps hR hT hX hA (by rw [mm.2.2.2.1 3 (fun z => hL 3 z List.mem_cons_self) (by decide)]; exact hf)
  exact ⟨S', e, h2, Bk_trans (Bk_MR mm) (Bk_MR m2), m2.2.2.2.2 0 (by decide)⟩
theorem r_refuses (h : RS S m A) (code : Int32) (n : Option Nat) (hn : ∀ k, n = some k → k < 1000) (r : Int32) : ∃ S', F_X10_refuses S m code (refN n) r = some (0, S') ∧ RS S' m (aSetCh A (refL code r n)) ∧ Bk S S' m 41 := by
  have key : ∀ (x N : Nat) (y : Int32), 2 ≤ N → N ≤ 3 → ∃ S', F_X10_refuses_11 S m code y r m (nI N) = some (0, S') ∧ Bk S S' m 41 ∧ RX S' m (aSetCh A (if N = 2 then [code, r] else [code, 100 + y, r])) ∧ RR S' m (aT A) := by
    intro x N y h2 h3
    unfold F_X10_refuses_11
    rw [s10_p13 h.1.1, Option.bind_some]
    have k1 := s10_k13 h.1.1 h.1.1 (nI N)
    have v1 := s10_v13 h.1.1 (nI N)
    have m1 := r_setF h.1.1 (nI N) k1
    generalize wF S m 13 (.int (nI N)) = S1 at *
    have e2 : oSI S1 (m + 7) .int (0 : Int32) code = some (wI S1 (m + 7) 0 code) := s10_w12 k1 (i := 0) (by decide) code
    rw [s10_g12 k1, Option.bind_some, e2, Option.bind_some]
    have k2 := sh_wI k1 (m + 7) 0 code
    have v2 := s10_v12 k1 0 code
    have m2 : MR S (wI S1 (m + 7) 0 code) m [7] [13] := MR_I (MR_sub m1 (by decide) (by decide)) (by simp) (by decide) (by decide) _ _
    have f2 : fI ((wI S1 (m + 7) 0 code).2 m) 13 = nI N := by rw [wI_ne _ _ _ (by omega)]; exact v1
    generalize wI S1 (m + 7) 0 code = S2 at *
    have e3 : oSI S2 (m + 7) .int (1 : Int32) ((100 : Int32) + y) = some (wI S2 (m + 7) 1 ((100 : Int32) + y)) := s10_w12 k2 (i := 1) (by decide) _
    rw [s10_g12 k2, Option.bind_some, e3, Option.bind_some]
    have k3 := sh_wI k2 (m + 7) 1 ((100 : Int32) + y)
    have v3 := s10_v12 k2 1 ((100 : Int32) + y)
    have m3 : MR S (wI S2 (m + 7) 1 ((100 : Int32) + y)) m [7] [13] := MR_I m2 (by simp) (by decide) (by decide) _ _
    have f3 : fI ((wI S2 (m + 7) 1 ((100 : Int32) + y)).2 m) 13 = nI N := by rw [wI_ne _ _ _ (by omega)]; exact f2
    generalize wI S2 (m + 7) 1 ((100 : Int32) + y) = S3 at *
    obtain ⟨u, rfl⟩ : ∃ u, N = u + 1 := ⟨N - 1, by omega⟩
    rw [s10_g12 k3, Option.bind_some, s10_g13 k3, Option.bind_some, f3, nI_pred, s10_w12 k3 (by omega), Option.bind_some]
    have k4 := sh_wI k3 (m + 7) u r
    have v4 := s10_v12 k3 u r
    have m4 : MR S (wI S3 (m + 7) u r) m [7] [13] := MR_I m3 (by simp) (by decide) (by decide) _ _
    have f4 : fI ((wI S3 (m + 7) u r).2 m) 13 = nI (u + 1) := by rw [wI_ne _ _ _ (by omega)]; exact f3
    generalize wI S3 (m + 7) u r = S4 at *
    unfold F_X10_fails
    rw [s10_oF k4, s10_p0 k4, Option.bind_some, Option.bind_some]
    have k5 := s10_k0 k4 k4 4
    have m5 := r_setF k4 4 k5
    generalize wF S4 m 0 (.int 4) = S5 at *
    have mm : MR S S5 m [7] [13, 0] := MR_trans (MR_sub m4 (by decide) (by decide)) (MR_sub m5 (by decide) (by decide))
    obtain ⟨x1, x2, x3, x4, x5, x6, x7, x8, x9, x10, x11, x12, x13⟩ := h.2
    have f : ∀ k, k ∉ [13, 0] → fI (S5.2 m) k = fI (S.2 m) k := fun k hk => mm.2.2.2.2 k hk
    have a : ∀ j, j ≠ 7 → j ≠ 0 → S5.2 (m + j) = S.2 (m + j) := fun j hj h0 => mm.2.2.2.1 j (by simpa using hj) h0
    refine ⟨S5, rfl, Bk_MR mm, ?_, MR_RR mm (by decide) h.1⟩
    unfold RX
    rw [f 5 (by decide), f 6 (by decide), f 8 (by decide), f 10 (by decide), f 11 (by decide), f 30 (by decide), a 2 (by decide) (by decide), a 4 (by decide) (by decide), a 5 (by decide) (by decide), a 6 (by decide) (by decide), a 15 (by decide) (by decide), a 16 (by decide) (by decide), a 17 (by decide) (by decide), a 18 (by decide) (by decide), a 19 (by decide) (by decide)]
    refine ⟨x1, x2, x3, x4, x5, x6, x7, x8, x9, ?_, fun k z hk => ?_, x12, x13⟩
    · rw [m5.2.2.2.2 13 (by decide), f4]
      show nI (u + 1) = nI (if u + 1 = 2 then [code, r] else [code, 100 + y, r]).length
      by_cases c : u + 1 = 2
      · rw [if_pos c, c]; rfl
      · rw [if_neg c, show u + 1 = 3 by omega]; rfl
    · have hk' : (if u + 1 = 2 then [code, r] else [code, 100 + y, r])[k]? = some z := hk
      rw [m5.2.2.2.1 7 (by simp) (by decide), v4, v3, v2]
      by_cases c : u + 1 = 2
      · rw [if_pos c] at hk'
        have : u = 1 := by omega
        subst this
        match k, hk' with
        | 0, hk' => cases hk'; rw [pu_ne _ _ _ (by decide), pu_ne _ _ _ (by decide), pu_at]
        | 1, hk' => cases hk'; rw [pu_at]
      · rw [if_neg c] at hk'
        have : u = 2 := by omega
        subst this
        match k, hk' with
        | 0, hk' => cases hk'; rw [pu_ne _ _ _ (by decide), pu_ne _ _ _ (by decide), pu_at]
        | 1, hk' => cases hk'; rw [pu_ne _ _ _ (by decide), pu_at]
        | 2, hk' => cases hk'; rw [pu_at]
  unfold F_X10_refuses refN refL
  rw [s10_oF h.1.1]
  cases n with
  | none =>
    rw [if_neg (fun z => z rfl)]
    obtain ⟨S', e, b, hx, hr⟩ := key 0 2 (-1) (by decide) (by decide)
    exact ⟨S', e, ⟨hr, hx⟩, b⟩
  | some k =>
    have := hn k rfl
    dsimp only
    rw [if_pos (nI_nm1 (by omega))]
    obtain ⟨S', e, b, hx, hr⟩ := key 0 3 (nI k) (by decide) (by decide)
    exact ⟨S', e, ⟨hr, hx⟩, b⟩
theorem r_setNumber (h : RS S m A) (hA : aOk A) (x d n : Int32) : rC S m (F_X10_setNumber S m x d n) (stSetNum A x d n) := by
  unfold F_X10_setNumber stSetNum
  obtain ⟨S1, e1, h1, m1, t1⟩ := r_start h 0
  obtain ⟨S2, e2, h2, m2, f2⟩ := r_rem h1 hA
  have b2 : Bk S S2 m 41 := Bk_trans (Bk_MR m1) (Bk_MR m2)
  have t2 : fI (S2.2 m) 0 = 0 := by rw [m2.2.2.2.2 0 (by simp)]; exact t1
  rw [s10_oF h.1.1, e1, Option.bind_some, e2, Option.bind_some, r_isItem h2.1, Option.bind_some]
  rcases itN_c hA.1.1 x with ⟨i, hi, rfl, hp, e, e3⟩ | ⟨e, e3⟩
  · rw [e, e3, ite5 rfl]
    dsimp only
    by_cases c : d = 0
    · rw [if_pos c, if_pos c, in_eq, Option.bind_some]
      by_cases c1 : n < -999 ∨ 999 < n
      · rw [itp4 (fun z => c1.elim z.1 z.2), if_pos c1]
        exact rC_fail b2 h2 2 0 (by decide)
      · rw [itp5 (show ¬ n < -999 ∧ ¬ 999 < n from ⟨fun z => c1 (Or.inl z), fun z => c1 (Or.inr z)⟩), if_neg c1]
        unfold F_X10_setNumber_60 F_X10_setNumber_71
        rw [if_pos c, s10_g1 h2.1.1, Option.bind_some, li_62, nI_add, s10_r1 h2.1.1 (by omega), Option.bind_some, Option.bind_some, s10_w1 h2.1.1 (by omega), Option.bind_some]
        have k3 := sh_wI h2.1.1 (m + 1) (62 + i) n
        have m3 : MR S2 (wI S2 (m + 1) (62 + i) n) m [1] [] := MR_I (MR_refl h2.1.1 _ _) (by simp) (by decide) (by decide) _ _
        have hR : RR (wI S2 (m + 1) (62 + i) n) m (tSetV (aT A) i n) := ⟨k3, by rw [s10_v1 h2.1.1]; exact RT_setV h2.1.2 hA.1.1 hp n⟩
        have hg : good (tSetV (aT A) i n) := good_cg hA.1 rfl rfl rfl (fun i hi => hA.1.1.2.2.2.2.1 i hi)
        obtain ⟨S4, e4, h4, b4, t4⟩ := r_change h2 hA f2 m3 (by decide) (by decide) hR hg.1
        rw [e4, Option.bind_some]
        refine ⟨_, _, rfl, h4, Bk_trans b2 b4, by rw [t4, m3.2.2.2.2 0 (by simp)]; exact t2, fun _ => (h2.1.2.2.2 i hp).1⟩
    · rw [if_neg c, if_neg c, in_eq, Option.bind_some]
      by_cases c1 : n < -1 ∨ 9999 < n
      · rw [itp4 (fun z => c1.elim z.1 z.2), if_pos c1]
        exact rC_fail b2 h2 2 0 (by decide)
      · rw [itp5 (show ¬ n < -1 ∧ ¬ 9999 < n from ⟨fun z => c1 (Or.inl z), fun z => c1 (Or.inr z)⟩), if_neg c1]
        unfold F_X10_setNumber_60 F_X10_setNumber_71
        rw [if_neg c, s10_g1 h2.1.1, Option.bind_some, li_123, nI_add, s10_r1 h2.1.1 (by omega), Option.bind_some, Option.bind_some, s10_w1 h2.1.1 (by omega), Option.bind_some]
        have k3 := sh_wI h2.1.1 (m + 1) (123 + i) n
        have m3 : MR S2 (wI S2 (m + 1) (123 + i) n) m [1] [] := MR_I (MR_refl h2.1.1 _ _) (by simp) (by decide) (by decide) _ _
        have hR : RR (wI S2 (m + 1) (123 + i) n) m (tSetD (aT A) i n) := ⟨k3, by rw [s10_v1 h2.1.1]; exact RT_setD h2.1.2 hA.1.1 hp n⟩
        have hg : good (tSetD (aT A) i n) := good_cg hA.1 rfl rfl rfl (fun i hi => hA.1.1.2.2.2.2.1 i hi)
        obtain ⟨S4, e4, h4, b4, t4⟩ := r_change h2 hA f2 m3 (by decide) (by decide) hR hg.1
        rw [e4, Option.bind_some]
        refine ⟨_, _, rfl, h4, Bk_trans b2 b4, by rw [t4, m3.2.2.2.2 0 (by simp)]; exact t2, fun _ => (h2.1.2.2.2 i hp).2.1⟩
  · rw [e, e3, ite4 rfl]
    exact rC_fail b2 h2 1 0 (by decide)
theorem flg_set (d f : Bool) : (flg d f ||| ((1 : Int32) <<< ((0 : Int32) &&& 31))) = flg true f ∧ (flg d f &&& (((1 : Int32) <<< ((0 : Int32) &&& 31)) ^^^ (-1 : Int32))) = flg false f ∧ (flg d f ||| ((1 : Int32) <<< ((1 : Int32) &&& 31))) = flg d true ∧ (flg d f &&& (((1 : Int32) <<< ((1 : Int32) &&& 31)) ^^^ (-1 : Int32))) = flg d false := by
  cases d <;> cases f <;> decide
theorem oZ_b (b : Bool) : oZ (if b = true then (1 : Int32) else 0) = some (if b = true then 1 else 0) := by cases b <;> rfl
theorem r_setFlag (h : RS S m A) (hA : aOk A) (x d n : Int32) : rC S m (F_X10_setFlag S m x d n) (stSetFlag A x d n) := by
  unfold F_X10_setFlag stSetFlag
  rw [s10_oF h.1.1, r_isItem h.1, Option.bind_some]
  rcases itN_c hA.1.1 x with ⟨i, hi, rfl, hp, e, e3⟩ | ⟨e, e3⟩
  · rw [e, e3, ite1 rfl]
    dsimp only
    unfold F_X10_setFlag_14
    obtain ⟨S1, e1, h1, m1, t1⟩ := r_start h 0
    obtain ⟨S2, e2, h2, m2, f2⟩ := r_rem h1 hA
    have b2 : Bk S S2 m 41 := Bk_trans (Bk_MR m1) (Bk_MR m2)
    have t2 : fI (S2.2 m) 0 = 0 := by rw [m2.2.2.2.2 0 (by simp)]; exact t1
    rw [e1, Option.bind_some, s10_g0 h1.1.1, Option.bind_some, t1, if_pos (Int32.le_refl _), e2, Option.bind_some]
    have hfl := (h2.1.2.2.2 i hp).2.2.1
    have fin : ∀ (v w : Int32) (T' : Tr) (q : Bool), tMade T' = tMade (aT A) → tPres T' = tPres (aT A) → tVal T' = tVal (aT A) → tDay T' = tDay (aT A) → tName T' = tName (aT A) → tKids T' = tKids (aT A) → v = flg (tDone T' i) (tFold T' i) → (∀ x, x ≠ i → tDone T' x = tDone (aT A) x ∧ tFold T' x = tFold (aT A) x) → rC S m (F_X10_setFlag_98 S2 m (if q = true then 1 else 0) (m + 1) (nI (184 + i)) v) (aKeep A T', 0, if q = true then 1 else 0) := by
      intro v w T' q g1 g2 g3 g4 g5 g6 g7 g8
      unfold F_X10_setFlag_98
      rw [s10_w1 h2.1.1 (by omega), Option.bind_some]
      have k3 := sh_wI h2.1.1 (m + 1) (184 + i) v
      have m3 : MR S2 (wI S2 (m + 1) (184 + i) v) m [1] [] := MR_I (MR_refl h2.1.1 _ _) (by simp) (by decide) (by decide) _ _
      have hR : RR (wI S2 (m + 1) (184 + i) v) m T' := ⟨k3, by rw [s10_v1 h2.1.1]; exact RT_setG h2.1.2 hA.1.1 hp g1 g2 g3 g4 g5 g6 g7 g8⟩
      have hg : good T' := good_cg hA.1 g1 g2 g6 (fun i hi => by rw [g5]; exact hA.1.1.2.2.2.2.1 i hi)
      obtain ⟨S4, e4, h4, b4, t4⟩ := r_change h2 hA f2 m3 (by decide) (by decide) hR hg.1
      rw [e4, Option.bind_some, oZ_b, Option.bind_some]
      exact ⟨_, _, rfl, h4, Bk_trans b2 b4, by rw [t4, m3.2.2.2.2 0 (by simp)]; exact t2, fun _ => rfl⟩
    by_cases c : d = 0
    · rw [if_pos c, if_pos c]
      unfold F_X10_setFlag_39
      rw [r_has0 h2.1 hi hp, Option.bind_some, s10_g1 h2.1.1, Option.bind_some]
      by_cases cn : n = 0
      · rw [if_pos cn, Option.bind_some, li_184, nI_add, s10_r1 h2.1.1 (by omega), Option.bind_some, hfl, (flg_set _ _).2.1]
        refine fin _ 0 (tSetX (aT A) i (decide (n ≠ 0))) (tDone (aT A) i) rfl rfl rfl rfl rfl rfl ?_ (fun x hx => ⟨pu_ne _ _ _ hx, rfl⟩)
        show _ = flg (pu (tDone (aT A)) i (decide (n ≠ 0)) i) (tFold (aT A) i)
        rw [pu_at]; simp [cn]
      · rw [if_neg cn, Option.bind_some, li_184, nI_add, s10_r1 h2.1.1 (by omega), Option.bind_some, hfl, (flg_set _ _).1]
        refine fin _ 0 (tSetX (aT A) i (decide (n ≠ 0))) (tDone (aT A) i) rfl rfl rfl rfl rfl rfl ?_ (fun x hx => ⟨pu_ne _ _ _ hx, rfl⟩)
        show _ = flg (pu (tDone (aT A)) i (decide (n ≠ 0)) i) (tFold (aT A) i)
        rw [pu_at]; simp [cn]
    · rw [if_neg c, if_neg c]
      unfold F_X10_setFlag_39
      rw [r_has1 h2.1 hi hp, Option.bind_some, s10_g1 h2.1.1, Option.bind_some]
      by_cases cn : n = 0
      · rw [if_pos cn, Option.bind_some, li_184, nI_add, s10_r1 h2.1.1 (by omega), Option.bind_some, hfl, (flg_set _ _).2.2.2]
        refine fin _ 0 (tSetF (aT A) i (decide (n ≠ 0))) (tFold (aT A) i) rfl rfl rfl rfl rfl rfl ?_ (fun x hx => ⟨rfl, pu_ne _ _ _ hx⟩)
        show _ = flg (tDone (aT A) i) (pu (tFold (aT A)) i (decide (n ≠ 0)) i)
        rw [pu_at]; simp [cn]
      · rw [if_neg cn, Option.bind_some, li_184, nI_add, s10_r1 h2.1.1 (by omega), Option.bind_some, hfl, (flg_set _ _).2.2.1]
        refine fin _ 0 (tSetF (aT A) i (decide (n ≠ 0))) (tFold (aT A) i) rfl rfl rfl rfl rfl rfl ?_ (fun x hx => ⟨rfl, pu_ne _ _ _ hx⟩)
        show _ = flg (tDone (aT A) i) (pu (tFold (aT A)) i (decide (n ≠ 0)) i)
        rw [pu_at]; simp [cn]
  · rw [e, e3, ite0 rfl]
    unfold F_X10_setFlag_14
    obtain ⟨S1, e1, h1, m1, t1⟩ := r_start h 1
    rw [e1, Option.bind_some, s10_g0 h1.1.1, Option.bind_some, t1, if_neg (by decide)]
    exact ⟨_, _, rfl, h1, Bk_MR m1, t1, fun z => absurd z (show ¬ (1 : Int32) = 0 by decide)⟩
theorem r_related (h : RS S m A) (hA : aOk A) (x y p : Int32) : rC S m (F_X10_related S m x y p) (stRelated A x y p) := by
  unfold F_X10_related stRelated
  obtain ⟨S1, e1, h1, m1, t1⟩ := r_start h 0
  have hT := hA.1.1
  rw [s10_oF h.1.1, e1, Option.bind_some, r_isItem h1.1, Option.bind_some]
  rcases itN_c hT x with ⟨i, hi, rfl, hp, e, e3⟩ | ⟨e, e3⟩
  · rw [e, e3, ite5 rfl]
    dsimp only
    by_cases c : p = 0
    · rw [if_neg (fun z => z c), if_neg (fun z => z c)]
      have h12 := (hT.2.2.2.1 i hp).1
      rw [s10_g1 h1.1.1, Option.bind_some, li_916, nI_add, s10_r1 h1.1.1 (by omega), Option.bind_some, r_many h1.1 hp, in_ix _ _ (by omega), Option.bind_some]
      rcases ixN_c y (n := (tKids (aT A) i).length) (by omega) with ⟨j, hj, rfl, ej⟩ | ⟨ej, -⟩
      · rw [ej, ite1 (b := (some j).isSome) rfl, r_child h1.1 hi (by omega) hp (List.getElem?_eq_getElem hj), Option.bind_some]
        refine ⟨_, _, rfl, h1, Bk_MR m1, t1, fun _ => ?_⟩
        show _ = nI ((tKids (aT A) i).getD j 0)
        rw [List.getD_eq_getElem?_getD, List.getElem?_eq_getElem hj]; rfl
      · rw [ej, ite0 (b := (none : Option Nat).isSome) rfl]
        exact rC_fail (Bk_MR m1) h1 2 0 (by decide)
    · rw [if_pos c, if_pos c]
      have hl : (par (aT A) i).length ≤ 61 := by
        have := List.length_filter_le (fun p => tPres (aT A) p && (tKids (aT A) p).contains i) (List.range 61)
        rw [List.length_range] at this
        exact this
      obtain ⟨r, er, hr⟩ := iter_fu (F := F_X10_related_64 m (nI i) y S1) (s := ((0 : Int32), (0 : Int32))) (fun k s => s = (nI ((List.range k).filter fun p => tPres (aT A) p && (tKids (aT A) p).contains i).length, nI k) ∧ ∀ j, y = nI j → j < 2 ^ 31 → ((List.range k).filter fun p => tPres (aT A) p && (tKids (aT A) p).contains i).length ≤ j)
        (P := fun r => (∃ j, j < (par (aT A) i).length ∧ y = nI j ∧ r = .inl (nI ((par (aT A) i).getD j 0))) ∨ (r = .inr () ∧ ∀ j, y = nI j → j < 2 ^ 31 → (par (aT A) i).length ≤ j)) 61 (by decide) ⟨rfl, fun j _ _ => Nat.zero_le _⟩
        (by
          rintro s ⟨rfl, hs⟩
          unfold F_X10_related_64
          rw [if_pos le61]
          exact ⟨_, rfl, Or.inr ⟨rfl, hs⟩⟩)
        (by
          rintro k s hk ⟨rfl, hs⟩
          unfold F_X10_related_64
          rw [if_neg (ge61 hk), r_isItem_n h1.1 hk, Option.bind_some, par_range]
          cases hpk : tPres (aT A) k
          · rw [ite0 rfl, nI_1]
            exact ⟨_, rfl, by simp, fun j h1 h2 => by simpa using hs j h1 h2⟩
          · obtain ⟨ri, eri, hri⟩ := r_indexOf h1.1 hT i hi hk hpk
            rw [ite1 rfl, eri, Option.bind_some]
            by_cases mm : i ∈ tKids (aT A) k
            · rw [if_neg (fun z => (hri.mp z) mm)]
              by_cases ey : nI ((List.range k).filter fun p => tPres (aT A) p && (tKids (aT A) p).contains i).length = y
              · rw [if_neg (fun z => z ey)]
                refine ⟨_, rfl, Or.inl ⟨((List.range k).filter fun p => tPres (aT A) p && (tKids (aT A) p).contains i).length, ?_, ey.symm, ?_⟩⟩
                all_goals
                  have e2 : par (aT A) i = ((List.range k).filter fun p => tPres (aT A) p && (tKids (aT A) p).contains i) ++ ((List.range' k (61 - k)).filter fun p => tPres (aT A) p && (tKids (aT A) p).contains i) := by
                    unfold par
                    rw [← List.filter_append]
                    congr 1
                    rw [List.range_eq_range', List.range_eq_range']
                    have := List.range'_append (s := 0) (m := k) (n := 61 - k) (step := 1)
                    rw [Nat.zero_add, Nat.one_mul] at this
                    rw [this]
                    congr 1
                    omega
                  have e3 : 61 - k = (60 - k) + 1 := by omega
                  rw [e3, List.range'_succ, List.filter_cons, if_pos (by simp [hpk, mm])] at e2
                · rw [e2, List.length_append, List.length_cons]; omega
                · rw [e2, List.getD_eq_getElem?_getD, List.getElem?_append_right (Nat.le_refl _), Nat.sub_self]
                  rfl
              · rw [if_pos ey, nI_1, nI_1]
                refine ⟨_, rfl, by simp [mm], fun j j1 j2 => ?_⟩
                have := hs j j1 j2
                have hne : ((List.range k).filter fun p => tPres (aT A) p && (tKids (aT A) p).contains i).length ≠ j := fun z => ey (by rw [z, j1])
                rw [if_pos ⟨rfl, mm⟩, List.length_append, List.length_singleton]
                omega
            · rw [if_pos (hri.mpr mm), nI_1]
              exact ⟨_, rfl, by simp [mm], fun j h1 h2 => by simpa [mm] using hs j h1 h2⟩)
      rw [er, Option.bind_some]
      rcases ixN_c y (n := (par (aT A) i).length) (by omega) with ⟨j, hj, rfl, ej⟩ | ⟨ej, hj⟩
      · rw [ej]
        rcases hr with ⟨j', hj', ey, rfl⟩ | ⟨rfl, hr⟩
        · have : j = j' := (nI_eq (by omega) (by omega)).mp ey
          subst this
          exact ⟨_, _, rfl, h1, Bk_MR m1, t1, fun _ => rfl⟩
        · have := hr j rfl (by omega)
          omega
      · rw [ej]
        rcases hr with ⟨j', hj', ey, rfl⟩ | ⟨rfl, hr⟩
        · exfalso
          subst ey
          rcases hj with z | z
          · exact nI_pos (by omega) z
          · exact nI_ge hj' (by omega) z
        · exact rC_fail (Bk_MR m1) h1 2 0 (by decide)
  · rw [e, e3, ite4 rfl]
    exact rC_fail (Bk_MR m1) h1 1 0 (by decide)
end RCH
