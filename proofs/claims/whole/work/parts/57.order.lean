/-! the order, step by step: what the rows of the order, of the parents not yet seen and the count hold; o: the items in order, k: how many of them are done -/
def OI (T : Tr) (k : Nat) (o : List Nat) (ord w : Nat → Int32) (n : Int32) : Prop := kInv T k o ∧ kloop T (61 - k) k o = ordT T ∧ n = nI o.length ∧ (∀ j c, o[j]? = some c → ord j = nI c) ∧ ∀ c, c < 61 → w c = nI (wt T (o.take k) c)
def kz (T : Tr) (k : Nat) (o : List Nat) (c : Nat) : Bool := decide (wt T (o.take (k + 1)) c = 0)
def OJ (T : Tr) (k : Nat) (o : List Nat) (K : List Nat) (ord w : Nat → Int32) (n : Int32) : Prop := n = nI (o ++ K.filter (kz T k o)).length ∧ (∀ j c, (o ++ K.filter (kz T k o))[j]? = some c → ord j = nI c) ∧ ∀ c, c < 61 → w c = nI (wt T (o.take k) c - if c ∈ K then 1 else 0)
theorem kInv_le {T : Tr} (h : tOk T) {k : Nat} {o : List Nat} (hI : kInv T k o) : o.length ≤ 61 := by
  have hl : o.length ≤ (List.range 61).length := List.Nodup.length_le_of_subset hI.2.1 (fun c hc => List.mem_range.mpr (tOk_lt h ((hI.2.2.1 c).mp hc).1))
  rw [List.length_range] at hl
  exact hl
theorem OI_pres {T : Tr} {k p : Nat} {o : List Nat} {ord w : Nat → Int32} {n : Int32} (h : OI T k o ord w n) (hp : o[k]? = some p) : tPres T p = true := ((h.1.2.2.1 p).mp (List.mem_of_getElem? hp)).1
theorem OI_0 {T : Tr} (h : tOk T) {ord w : Nat → Int32} {n : Int32} (hn : n = nI (ko0 T).length) (ho : ∀ j c, (ko0 T)[j]? = some c → ord j = nI c) (hw : ∀ c, c < 61 → w c = nI (par T c).length) : OI T 0 (ko0 T) ord w n :=
  ⟨kInv_0 h, rfl, hn, ho, fun c hc => by rw [List.take_zero, wt_nil]; exact hw c hc⟩
theorem OI_end {T : Tr} {k : Nat} {o : List Nat} {ord w : Nat → Int32} {n : Int32} (h : OI T k o ord w n) (hk : o.length ≤ k) : o = ordT T := by
  obtain ⟨h1, h2, -⟩ := h
  rw [← h2]
  cases e : 61 - k with
  | zero => rfl
  | succ n =>
    unfold kloop
    rw [List.getElem?_eq_none_iff.mpr hk]
theorem OJ_0 {T : Tr} {k : Nat} {o : List Nat} {ord w : Nat → Int32} {n : Int32} (h : OI T k o ord w n) : OJ T k o [] ord w n :=
  ⟨by simpa using h.2.2.1, by simpa using h.2.2.2.1, fun c hc => by simpa using h.2.2.2.2 c hc⟩
theorem OJ_end {T : Tr} (hT : tOk T) {k p : Nat} {o : List Nat} {ord0 w0 ord w : Nat → Int32} {n0 n : Int32} (h : OI T k o ord0 w0 n0) (hp : o[k]? = some p) (hJ : OJ T k o (tKids T p) ord w n) : OI T (k + 1) (o ++ (tKids T p).filter (kz T k o)) ord w n := by
  obtain ⟨j1, j2, j3⟩ := hJ
  have hI := kInv_step hT h.1 hp
  have hpp := OI_pres h hp
  obtain ⟨hk, hpk⟩ := List.getElem?_eq_some_iff.mp hp
  have hl := kInv_le hT h.1
  refine ⟨hI, ?_, j1, j2, fun c hc => ?_⟩
  · have e : 61 - k = (61 - (k + 1)) + 1 := by omega
    rw [← h.2.1, e]
    conv => rhs; unfold kloop; rw [hp]
    rfl
  · rw [j3 c hc]
    have ht : (o ++ (tKids T p).filter (kz T k o)).take (k + 1) = o.take k ++ [p] := by
      rw [List.take_append_of_le_length (by omega), List.take_succ_eq_append_getElem hk, hpk]
    rw [ht]
    have hpD : p ∉ o.take k := by
      intro z
      have hn : (o.take k ++ o.drop k).Nodup := by rw [List.take_append_drop]; exact h.1.2.1
      have := (List.nodup_append.mp hn).2.2 p z p (by rw [List.drop_eq_getElem_cons hk, hpk]; exact List.mem_cons_self)
      exact this rfl
    by_cases m : c ∈ tKids T p
    · rw [if_pos m, wt_step (par_mem.mpr ⟨tOk_lt hT hpp, hpp, m⟩) hpD]; rfl
    · rw [if_neg m, wt_same (fun z => m (par_mem.mp z).2.2)]; rfl
theorem OJ_step {T : Tr} (hT : tOk T) {k p i c : Nat} {o : List Nat} {ord0 w0 ord w : Nat → Int32} {n0 n : Int32} (h : OI T k o ord0 w0 n0) (hp : o[k]? = some p) (hc : (tKids T p)[i]? = some c) (hJ : OJ T k o ((tKids T p).take i) ord w n) :
    (w c - 1 = nI (wt T (o.take (k + 1)) c)) ∧ wt T (o.take (k + 1)) c < 100 ∧ (kz T k o c = false → OJ T k o ((tKids T p).take (i + 1)) ord (pu w c (w c - 1)) n) ∧
    (kz T k o c = true → ∃ N, N < 61 ∧ n = nI N ∧ OJ T k o ((tKids T p).take (i + 1)) (pu ord N (nI c)) (pu w c (w c - 1)) (n + 1)) := by
  obtain ⟨j1, j2, j3⟩ := hJ
  have hpp := OI_pres h hp
  obtain ⟨hk, hpk⟩ := List.getElem?_eq_some_iff.mp hp
  obtain ⟨hi, hci⟩ := List.getElem?_eq_some_iff.mp hc
  have hcm : c ∈ tKids T p := List.mem_of_getElem? hc
  have hc61 := (tOk_kid hT hpp hcm).2.2.2
  have htk : o.take (k + 1) = o.take k ++ [p] := by rw [List.take_succ_eq_append_getElem hk, hpk]
  have hpD : p ∉ o.take k := by
    intro z
    have hn : (o.take k ++ o.drop k).Nodup := by rw [List.take_append_drop]; exact h.1.2.1
    have := (List.nodup_append.mp hn).2.2 p z p (by rw [List.drop_eq_getElem_cons hk, hpk]; exact List.mem_cons_self)
    exact this rfl
  have hws : wt T (o.take k) c = wt T (o.take (k + 1)) c + 1 := by
    rw [htk]; exact wt_step (par_mem.mpr ⟨tOk_lt hT hpp, hpp, hcm⟩) hpD
  have hkn := (hT.2.2.2.1 p hpp).2.1
  have htake : (tKids T p).take (i + 1) = (tKids T p).take i ++ [c] := by rw [List.take_succ_eq_append_getElem hi, hci]
  have hcK : c ∉ (tKids T p).take i := by
    intro z
    have hn : ((tKids T p).take i ++ (tKids T p).drop i).Nodup := by rw [List.take_append_drop]; exact hkn
    have := (List.nodup_append.mp hn).2.2 c z c (by rw [List.drop_eq_getElem_cons hi, hci]; exact List.mem_cons_self)
    exact this rfl
  have hw1 : w c - 1 = nI (wt T (o.take (k + 1)) c) := by
    rw [j3 c hc61, if_neg hcK, Nat.sub_zero, hws, nI_pred]
  have hwK : ∀ x, x < 61 → pu w c (w c - 1) x = nI (wt T (o.take k) x - if x ∈ (tKids T p).take (i + 1) then 1 else 0) := by
    intro x hx
    rw [htake]
    by_cases e : x = c
    · subst e
      rw [pu_at, hw1, if_pos (by simp), hws]; rfl
    · rw [pu_ne _ _ _ e, j3 x hx]
      congr 2
      by_cases m : x ∈ (tKids T p).take i
      · rw [if_pos m, if_pos (by simp [m])]
      · rw [if_neg m, if_neg (by simp [m, e])]
  refine ⟨hw1, ?_, fun z => ?_, fun z => ?_⟩
  · have := List.length_filter_le (fun q => !(o.take (k + 1)).contains q) (par T c)
    have h2 := List.length_filter_le (fun q => tPres T q && (tKids T q).contains c) (List.range 61)
    rw [List.length_range] at h2
    unfold wt par at *
    omega
  · have ef : ((tKids T p).take (i + 1)).filter (kz T k o) = ((tKids T p).take i).filter (kz T k o) := by
      rw [htake, List.filter_append]; simp [z]
    refine ⟨by rw [ef]; exact j1, by rw [ef]; exact j2, hwK⟩
  · have ef : ((tKids T p).take (i + 1)).filter (kz T k o) = ((tKids T p).take i).filter (kz T k o) ++ [c] := by
      rw [htake, List.filter_append]; simp [z]
    have hle : (o ++ ((tKids T p).take (i + 1)).filter (kz T k o)).length ≤ 61 := by
      have h1 := kInv_le hT (kInv_step hT h.1 hp)
      have h2 : (((tKids T p).take (i + 1)).filter (kz T k o)).length ≤ ((tKids T p).filter (kz T k o)).length := (List.Sublist.filter _ (List.take_sublist _ _)).length_le
      rw [List.length_append] at h1 ⊢
      have h3 : ((tKids T p).filter fun c => decide (wt T (o.take (k + 1)) c = 0)) = (tKids T p).filter (kz T k o) := rfl
      rw [h3] at h1
      omega
    have ea : o ++ (((tKids T p).take i).filter (kz T k o) ++ [c]) = (o ++ ((tKids T p).take i).filter (kz T k o)) ++ [c] := (List.append_assoc _ _ _).symm
    rw [ef, ea, List.length_append, List.length_singleton] at hle
    refine ⟨(o ++ ((tKids T p).take i).filter (kz T k o)).length, by omega, j1, ?_, ?_, hwK⟩
    · rw [ef, ea, List.length_append, List.length_singleton, j1, nI_1]
    · intro j x hx
      rw [ef, ea] at hx
      by_cases e : j = (o ++ ((tKids T p).take i).filter (kz T k o)).length
      · subst e
        rw [List.getElem?_append_right (Nat.le_refl _), Nat.sub_self] at hx
        have : c = x := by simpa using hx
        rw [pu_at, this]
      · rw [pu_ne _ _ _ e]
        apply j2
        rw [List.getElem?_append] at hx
        by_cases l : j < (o ++ ((tKids T p).take i).filter (kz T k o)).length
        · rw [if_pos l] at hx; exact hx
        · rw [if_neg l] at hx
          have := (List.getElem?_eq_some_iff.mp hx).1
          rw [List.length_singleton] at this
          omega
/-! counting parents: inner row by row -/
def CJ (T : Tr) (p : Nat) (K : List Nat) (w : Nat → Int32) : Prop := ∀ c, c < 61 → w c = nI (((List.range p).filter fun q => tPres T q && (tKids T q).contains c).length + if c ∈ K then 1 else 0)
theorem CJ_0 (T : Tr) {w : Nat → Int32} (h : ∀ c, c < 61 → w c = 0) : CJ T 0 [] w := fun c hc => by rw [h c hc]; rfl
theorem CJ_no {T : Tr} {p : Nat} {w : Nat → Int32} (h : CJ T p [] w) (hp : tPres T p = false) : CJ T (p + 1) [] w := fun c hc => by
  rw [h c hc, par_range]
  congr 1
  simp [hp]
theorem CJ_yes {T : Tr} {p : Nat} {w : Nat → Int32} (h : CJ T p (tKids T p) w) (hp : tPres T p = true) : CJ T (p + 1) [] w := fun c hc => by
  rw [h c hc, par_range]
  congr 1
  by_cases m : c ∈ tKids T p
  · simp [hp, m]
  · simp [m]
theorem CJ_step {T : Tr} (hT : tOk T) {p i c : Nat} {w : Nat → Int32} (hp : tPres T p = true) (hc : (tKids T p)[i]? = some c) (h : CJ T p ((tKids T p).take i) w) : CJ T p ((tKids T p).take (i + 1)) (pu w c (w c + 1)) := by
  obtain ⟨hi, hci⟩ := List.getElem?_eq_some_iff.mp hc
  have hkn := (hT.2.2.2.1 p hp).2.1
  have hcK : c ∉ (tKids T p).take i := by
    intro z
    have hn : ((tKids T p).take i ++ (tKids T p).drop i).Nodup := by rw [List.take_append_drop]; exact hkn
    have := (List.nodup_append.mp hn).2.2 c z c (by rw [List.drop_eq_getElem_cons hi, hci]; exact List.mem_cons_self)
    exact this rfl
  have htake : (tKids T p).take (i + 1) = (tKids T p).take i ++ [c] := by rw [List.take_succ_eq_append_getElem hi, hci]
  intro x hx
  by_cases e : x = c
  · subst e
    rw [pu_at, h x hx, if_neg hcK, htake, if_pos (by simp), Nat.add_zero, nI_1]
  · rw [pu_ne _ _ _ e, h x hx, htake]
    congr 2
    by_cases m : x ∈ (tKids T p).take i
    · rw [if_pos m, if_pos (by simp [m])]
    · rw [if_neg m, if_neg (by simp [m, e])]
theorem ko0_range (T : Tr) (n : Nat) : ((List.range (n + 1)).filter fun i => tPres T i && decide ((par T i).length = 0)) = ((List.range n).filter fun i => tPres T i && decide ((par T i).length = 0)) ++ (if tPres T n = true ∧ (par T n).length = 0 then [n] else []) := by
  rw [List.range_succ, List.filter_append]
  congr 1
  by_cases h : tPres T n = true ∧ (par T n).length = 0
  · rw [if_pos h]; simp [h.1, List.length_eq_zero_iff.mp h.2]
  · rw [if_neg h]
    simp only [List.filter_cons, List.filter_nil]
    rw [if_neg]
    simp only [Bool.and_eq_true, decide_eq_true_eq]
    exact h
