/-! filters: what an item fulfils; the reference -/
section HLD
variable {S : pS} {m : Nat} {T : Tr} {A : As}
/-- the letters stand in the name from s on -/
def stB (nm l : List Int32) (s : Nat) : Bool := decide (s + l.length ≤ nm.length) && (List.range l.length).all fun k => decide (nm.getD (s + k) 0 = l.getD k 0)
def conB (nm l : List Int32) : Bool := (List.range (nm.length + 1)).any fun s => stB nm l s
def holdsC (T : Tr) (i : Nat) (q : Cnd) : Bool :=
  if q.1 = 0 then tDone T i else if q.1 = 1 then decide (tDay T i ≠ -1) else if q.1 = 2 then decide (tKids T i = []) else if q.1 = 3 then decide (¬ nI (plcT T i) ≤ 1) else if q.1 = 4 then decide (¬ sumB T (lb (famT T i)) ≤ q.2.2.1) else if q.1 = 5 then decide (¬ q.2.2.1 ≤ sumB T (lb (famT T i))) else conB (tName T i) q.2.2.2
theorem getD_some {l : List Int32} {k : Nat} (h : k < l.length) : l[k]? = some (l.getD k 0) := by
  rw [List.getD_eq_getElem?_getD, List.getElem?_eq_getElem h]; rfl
theorem r_cont29 (h : RR S m T) {i c s : Nat} {l : List Int32} (hi : tPres T i = true) (hT : tOk T) (hc : c < 5) (hl : l.length ≤ 10) (hs : s + l.length ≤ (tName T i).length) (h17 : cI (S.2 (m + 17)) c = nI l.length) (h18 : ∀ (k : Nat) x, l[k]? = some x → cI (S.2 (m + 18)) (10 * c + k) = x) : iter (F_X10_contains_29 m (nI i) (nI c) (nI s) S) fu ((1 : Int32), (0 : Int32)) = some (if stB (tName T i) l s = true then 1 else 0) := by
  have hi61 := tOk_lt hT hi
  have hn10 := (hT.2.2.2.2.1 i hi).1
  obtain ⟨r, e, hr⟩ := iter_fu (F := F_X10_contains_29 m (nI i) (nI c) (nI s) S) (s := ((1 : Int32), (0 : Int32))) (fun k x => x = ((if ((List.range k).all fun k => decide ((tName T i).getD (s + k) 0 = l.getD k 0)) = true then (1 : Int32) else 0), nI k)) (P := fun r => r = if ((List.range l.length).all fun k => decide ((tName T i).getD (s + k) 0 = l.getD k 0)) = true then (1 : Int32) else 0) l.length (by omega) rfl
    (by
      rintro x rfl
      unfold F_X10_contains_29
      rw [s10_g27 h.1, Option.bind_some, s10_r27 h.1 hc, Option.bind_some, h17, if_pos (nI_le (Nat.le_refl _) (by omega))]
      exact ⟨_, rfl, rfl⟩)
    (by
      rintro k x hk rfl
      unfold F_X10_contains_29
      rw [s10_g27 h.1, Option.bind_some, s10_r27 h.1 hc, Option.bind_some, h17, if_neg (nI_ge hk (by omega)), List.range_succ, List.all_append]
      cases e : (List.range k).all fun k => decide ((tName T i).getD (s + k) 0 = l.getD k 0)
      · dsimp only
        rw [ite0 rfl, nI_1]
        exact ⟨_, rfl, rfl⟩
      · dsimp only
        rw [ite1 rfl, s10_g1 h.1, Option.bind_some, li_306, li_10, pk_mul, nI_add, nI_add, nI_add, s10_r1 h.1 (by omega), Option.bind_some, s10_g28 h.1, Option.bind_some, pk_mul, nI_add, s10_r28 h.1 (by omega), Option.bind_some, h18 k _ (getD_some hk)]
        have hx := (h.2.2.2 i hi).2.2.2.2.1 (s + k) _ (getD_some (by omega))
        rw [show 306 + 10 * i + s + k = 306 + (10 * i + (s + k)) by omega, hx, nI_1]
        by_cases q : (tName T i).getD (s + k) 0 = l.getD k 0
        · rw [if_neg (fun z => z q)]
          refine ⟨_, rfl, ?_⟩
          show _ = _
          simp only [List.all_cons, List.all_nil, Bool.and_true, Bool.true_and, decide_eq_true q]; rfl
        · rw [if_pos q]
          refine ⟨_, rfl, ?_⟩
          show _ = _
          simp only [List.all_cons, List.all_nil, Bool.and_true, Bool.true_and, decide_eq_false q]; rfl)
  rw [e, hr]
  unfold stB
  rw [decide_eq_true hs, Bool.true_and]
theorem r_contains (h : RR S m T) {i c : Nat} {l : List Int32} (hi : tPres T i = true) (hT : tOk T) (hc : c < 5) (hl : l.length ≤ 10) (h17 : cI (S.2 (m + 17)) c = nI l.length) (h18 : ∀ (k : Nat) x, l[k]? = some x → cI (S.2 (m + 18)) (10 * c + k) = x) : F_X10_contains S m (nI i) (nI c) = some (if conB (tName T i) l = true then 1 else 0) := by
  unfold F_X10_contains
  have hi61 := tOk_lt hT hi
  have hn10 := (hT.2.2.2.2.1 i hi).1
  have nm := (h.2.2.2 i hi).2.2.2.1
  obtain ⟨r, e, hr⟩ := iter_fu (F := F_X10_contains_2 m (nI i) (nI c) S) (s := (0 : Int32)) (fun k x => x = nI k ∧ ∀ s, s < k → stB (tName T i) l s = false) (P := fun r => (r = .inl () ∧ conB (tName T i) l = true) ∨ (r = .inr () ∧ conB (tName T i) l = false)) ((tName T i).length + 1) (by omega) ⟨rfl, fun s hs => absurd hs (Nat.not_lt_zero _)⟩
    (by
      rintro x ⟨rfl, hs⟩
      unfold F_X10_contains_2
      rw [s10_g27 h.1, Option.bind_some, s10_r27 h.1 hc, Option.bind_some, h17, s10_g1 h.1, Option.bind_some, li_245, nI_add, s10_r1 h.1 (by omega), Option.bind_some, nm, nI_add, if_pos (nI_lt (by omega) (by omega))]
      refine ⟨_, rfl, Or.inr ⟨rfl, ?_⟩⟩
      unfold conB
      rw [List.any_eq_false]
      intro s z
      rw [hs s (List.mem_range.mp z)]
      decide)
    (by
      rintro k x hk ⟨rfl, hs⟩
      unfold F_X10_contains_2
      rw [s10_g27 h.1, Option.bind_some, s10_r27 h.1 hc, Option.bind_some, h17, s10_g1 h.1, Option.bind_some, li_245, nI_add, s10_r1 h.1 (by omega), Option.bind_some, nm, nI_add]
      by_cases g : (tName T i).length < k + l.length
      · rw [if_pos (nI_lt g (by omega))]
        refine ⟨_, rfl, Or.inr ⟨rfl, ?_⟩⟩
        unfold conB
        rw [List.any_eq_false]
        intro s z
        by_cases y : s < k
        · rw [hs s y]; decide
        · unfold stB
          rw [decide_eq_false (show ¬ s + l.length ≤ (tName T i).length by omega)]
          exact Bool.false_ne_true
      · rw [if_neg (nI_nlt (by omega) (by omega)), r_cont29 h hi hT hc hl (by omega) h17 h18, Option.bind_some]
        cases q : stB (tName T i) l k
        · rw [ite0 rfl, nI_1]
          refine ⟨_, rfl, rfl, fun s hs2 => ?_⟩
          rcases Nat.lt_succ_iff_lt_or_eq.mp hs2 with z | z
          · exact hs s z
          · rw [z]; exact q
        · rw [ite1 rfl]
          refine ⟨_, rfl, Or.inl ⟨rfl, ?_⟩⟩
          unfold conB
          rw [List.any_eq_true]
          exact ⟨k, List.mem_range.mpr hk, q⟩)
  rw [s10_oF h.1, e, Option.bind_some]
  rcases hr with ⟨rfl, w⟩ | ⟨rfl, w⟩
  · rw [w]; rfl
  · rw [w]; rfl
theorem r_holds (h : RS S m A) (hA : aOk A) (hk : RK S m (aT A)) {i c : Nat} {q : Cnd} (hp : tPres (aT A) i = true) (hc : (aCn A)[c]? = some q) : F_X10_holds S m (nI i) (nI c) = some (if holdsC (aT A) i q = true then 1 else 0) := by
  unfold F_X10_holds holdsC
  have hT := hA.1.1
  have hi := tOk_lt hT hp
  have hc2 := (List.getElem?_eq_some_iff.mp hc).1
  have hl5 := hA.2.2.2.2.2.2.2.2.2.2.1
  have hq := hA.2.2.2.2.2.2.2.2.2.2.2.1 q (List.mem_of_getElem? hc)
  obtain ⟨x1, x2, x3, x4, x5, x6, x7, x8, x9, x10, x11, x12, x13⟩ := h.2
  obtain ⟨a1, a2, a3, a4⟩ := x13 c q hc
  have hs := h.1.1
  have hw := h.1.2.2.2 i hp
  rw [s10_oF hs, s10_g25 hs, Option.bind_some, s10_r25 hs (by omega), Option.bind_some, a1]
  have e0 : ∀ {j : Nat}, (j < 7) → (nI q.1 = nI j ↔ q.1 = j) := fun hj => nI_eq (by have := hq.1; omega) (by omega)
  by_cases k0 : q.1 = 0
  · rw [if_pos (show nI q.1 = (0 : Int32) from (e0 (j := 0) (by decide)).mpr k0), if_pos k0, r_has0 h.1 hi hp, Option.bind_some, oZ_b, Option.bind_some]
  rw [if_neg (show ¬ nI q.1 = (0 : Int32) from fun z => k0 ((e0 (j := 0) (by decide)).mp z)), if_neg k0]
  by_cases k1 : q.1 = 1
  · rw [if_pos (show nI q.1 = (1 : Int32) from (e0 (j := 1) (by decide)).mpr k1), if_pos k1, s10_g1 hs, Option.bind_some, li_123, nI_add, s10_r1 hs (by omega), Option.bind_some, hw.2.1]
    by_cases y : tDay (aT A) i = -1
    · rw [if_pos y, if_neg (by rw [decide_eq_false (fun z => z y)]; decide)]
    · rw [if_neg y, if_pos (decide_eq_true y)]
  rw [if_neg (show ¬ nI q.1 = (1 : Int32) from fun z => k1 ((e0 (j := 1) (by decide)).mp z)), if_neg k1]
  by_cases k2 : q.1 = 2
  · rw [if_pos (show nI q.1 = (2 : Int32) from (e0 (j := 2) (by decide)).mpr k2), if_pos k2, s10_g1 hs, Option.bind_some, li_916, nI_add, s10_r1 hs (by omega), Option.bind_some, r_many h.1 hp]
    have h12 := (hT.2.2.2.1 i hp).1
    by_cases y : tKids (aT A) i = []
    · rw [if_neg (fun z => z (by rw [y]; rfl)), if_pos (decide_eq_true y)]
    · rw [if_pos (fun z => y ((nI_len0 _ (by omega)).mp z)), if_neg (by rw [decide_eq_false y]; decide)]
  rw [if_neg (show ¬ nI q.1 = (2 : Int32) from fun z => k2 ((e0 (j := 2) (by decide)).mp z)), if_neg k2]
  by_cases k3 : q.1 = 3
  · rw [if_pos (show nI q.1 = (3 : Int32) from (e0 (j := 3) (by decide)).mpr k3), if_pos k3, s10_g16 hs, Option.bind_some, s10_r16 hs hi, Option.bind_some, (hk.2.2 i hi).1]
    by_cases y : nI (plcT (aT A) i) ≤ 1
    · rw [if_pos y, if_neg (by rw [decide_eq_false (fun z => z y)]; decide)]
    · rw [if_neg y, if_pos (decide_eq_true y)]
  rw [if_neg (show ¬ nI q.1 = (3 : Int32) from fun z => k3 ((e0 (j := 3) (by decide)).mp z)), if_neg k3]
  by_cases k4 : q.1 = 4
  · rw [if_pos (show nI q.1 = (4 : Int32) from (e0 (j := 4) (by decide)).mpr k4), if_pos k4, r_familyOf h.1 hk hT hp, Option.bind_some, s10_g26 hs, Option.bind_some, s10_r26 hs (by omega), Option.bind_some, a3 (Or.inl k4), fam1]
    by_cases y : sumB (aT A) (lb (famT (aT A) i)) ≤ q.2.2.1
    · rw [if_pos y, if_neg (by rw [decide_eq_false (fun z => z y)]; decide)]
    · rw [if_neg y, if_pos (decide_eq_true y)]
  rw [if_neg (show ¬ nI q.1 = (4 : Int32) from fun z => k4 ((e0 (j := 4) (by decide)).mp z)), if_neg k4]
  by_cases k5 : q.1 = 5
  · rw [if_pos (show nI q.1 = (5 : Int32) from (e0 (j := 5) (by decide)).mpr k5), if_pos k5, r_familyOf h.1 hk hT hp, Option.bind_some, s10_g26 hs, Option.bind_some, s10_r26 hs (by omega), Option.bind_some, a3 (Or.inr k5), fam1]
    by_cases y : q.2.2.1 ≤ sumB (aT A) (lb (famT (aT A) i))
    · rw [if_pos y, if_neg (by rw [decide_eq_false (fun z => z y)]; decide)]
    · rw [if_neg y, if_pos (decide_eq_true y)]
  have k6 : q.1 = 6 := by have := hq.1; omega
  rw [if_neg (show ¬ nI q.1 = (5 : Int32) from fun z => k5 ((e0 (j := 5) (by decide)).mp z)), if_neg k5, r_contains h.1 hp hT (by omega) hq.2.1 (a4 k6).1 (a4 k6).2, Option.bind_some, oZ_b, Option.bind_some]
def fitB (T : Tr) (L : List Cnd) (i : Nat) : Bool := L.all fun q => holdsC T i q != q.2.1
theorem r_fits (h : RS S m A) (hA : aOk A) (hk : RK S m (aT A)) {i : Nat} (hp : tPres (aT A) i = true) : F_X10_fits S m (nI i) = some (if fitB (aT A) (aCn A) i = true then 1 else 0) := by
  unfold F_X10_fits fitB
  have hl5 := hA.2.2.2.2.2.2.2.2.2.2.1
  have x12 := h.2.2.2.2.2.2.2.2.2.2.2.2.1
  have x13 := h.2.2.2.2.2.2.2.2.2.2.2.2.2
  have hs := h.1.1
  obtain ⟨r, e, hr⟩ := iter_fu (F := F_X10_fits_4 m (nI i) S) (s := ((1 : Int32), (0 : Int32))) (fun k x => x = ((if (((aCn A).take k).all fun q => holdsC (aT A) i q != q.2.1) = true then (1 : Int32) else 0), nI k)) (P := fun r => r = if ((aCn A).all fun q => holdsC (aT A) i q != q.2.1) = true then (1 : Int32) else 0) (aCn A).length (by omega) rfl
    (by
      rintro x rfl
      unfold F_X10_fits_4
      rw [s10_g30 hs, Option.bind_some, x12, if_pos (nI_le (Nat.le_refl _) (by omega)), List.take_length]
      exact ⟨_, rfl, rfl⟩)
    (by
      rintro k x hk' rfl
      unfold F_X10_fits_4
      have e1 : (aCn A)[k]? = some (aCn A)[k] := List.getElem?_eq_getElem hk'
      generalize (aCn A)[k] = q at *
      rw [s10_g30 hs, Option.bind_some, x12, if_neg (nI_ge hk' (by omega)), List.take_add_one, e1, List.all_append]
      cases e : (((aCn A).take k).all fun q => holdsC (aT A) i q != q.2.1)
      · dsimp only
        rw [ite0 rfl, nI_1]
        exact ⟨_, rfl, rfl⟩
      · dsimp only
        rw [ite1 rfl, r_holds h hA hk hp e1, Option.bind_some, s10_g29 hs, Option.bind_some, s10_r29 hs (by omega), Option.bind_some, (x13 k q e1).2.1, nI_1]
        cases y1 : holdsC (aT A) i q <;> cases y2 : q.2.1
        · exact ⟨_, rfl, by show _ = _; simp [y1, y2]⟩
        · exact ⟨_, rfl, by show _ = _; simp [y1, y2]⟩
        · exact ⟨_, rfl, by show _ = _; simp [y1, y2]⟩
        · exact ⟨_, rfl, by show _ = _; simp [y1, y2]⟩)
  rw [s10_oF hs, e, Option.bind_some, hr, oZ_b, Option.bind_some]
end HLD
