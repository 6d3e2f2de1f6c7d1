/-! families, and what changes keep -/
theorem fam_self {T : Tr} (h : tOk T) {p : Nat} (hp : tPres T p = true) : lb (famT T p) p = true := (lb_fam h hp (by have := tOk_lt h hp; omega)).mpr (Or.inl rfl)
theorem fam_pres {T : Tr} (h : tOk T) : ∀ p, tPres T p = true → ∀ i, i < 64 → lb (famT T p) i = true → tPres T i = true := by
  refine dag_ind h _ (fun p hp ih i hi z => ?_)
  rcases (lb_fam h hp hi).mp z with e | ⟨c, hc, z⟩
  · rw [e]; exact hp
  · exact ih c hc i hi z
theorem fam_closed {T : Tr} (h : tOk T) : ∀ p, tPres T p = true → ∀ i d, i < 64 → lb (famT T p) i = true → d ∈ tKids T i → lb (famT T p) d = true := by
  refine dag_ind h _ (fun p hp ih i d hi z hd => ?_)
  have hip := fam_pres h p hp i hi z
  have hd2 := tOk_kid h hip hd
  rcases (lb_fam h hp hi).mp z with e | ⟨c, hc, z⟩
  · subst e
    exact (lb_fam h hp (by omega)).mpr (Or.inr ⟨d, hd, fam_self h hd2.1⟩)
  · exact (lb_fam h hp (by omega)).mpr (Or.inr ⟨c, hc, ih c hc i d hi z hd⟩)
theorem fam_up {T : Tr} (h : tOk T) : ∀ p, tPres T p = true → ∀ i, i < 64 → lb (famT T p) i = true → i = p ∨ ∃ q, q < 61 ∧ lb (famT T p) q = true ∧ tPres T q = true ∧ i ∈ tKids T q := by
  refine dag_ind h _ (fun p hp ih i hi z => ?_)
  rcases (lb_fam h hp hi).mp z with e | ⟨c, hc, z⟩
  · exact Or.inl e
  · right
    have hcp := tOk_kid h hp hc
    rcases ih c hc i hi z with e | ⟨q, q1, q2, q3, q4⟩
    · subst e; exact ⟨p, tOk_lt h hp, fam_self h hp, hp, hc⟩
    · exact ⟨q, q1, (lb_fam h hp (by omega)).mpr (Or.inr ⟨c, hc, q2⟩), q3, q4⟩
theorem fam_root {T : Tr} (h : tOk T) (ha : tAll T) : ∀ i, tPres T i = true → lb (famT T 0) i = true := by
  refine dag_up h _ (fun c hc ih => ?_)
  by_cases e : c = 0
  · rw [e]; exact fam_self h h.1
  · obtain ⟨p, hp, hk⟩ := ha c hc e
    exact fam_closed h 0 h.1 p c (by have := tOk_lt h hp; omega) (ih p hp hk) hk
/-! put -/
theorem put_mem {T : Tr} {p k c i d : Nat} (hk : k ≤ (tKids T p).length) : d ∈ tKids (tPut T p k c) i ↔ (i = p ∧ d = c) ∨ d ∈ tKids T i := by
  rw [put_kids]
  by_cases e : i = p
  · subst e
    rw [if_pos rfl, (List.perm_insertIdx c (tKids T i) hk).mem_iff]
    simp
  · rw [if_neg e]; simp [e]
theorem put_ok {T : Tr} (h : tOk T) {p k c : Nat} (hp : tPres T p = true) (hc : tPres T c = true) (hc0 : c ≠ 0) (hk : k ≤ (tKids T p).length) (hl : (tKids T p).length < 12) (hn : c ∉ tKids T p) (hf : lb (famT T c) p = false) : tOk (tPut T p k c) := by
  have h0 := h
  obtain ⟨h1, h2, h3, h4, h5, rk, h6⟩ := h
  refine ⟨h1, h2, h3, fun i hi => ?_, h5, fun i => if lb (famT T c) i = true then rk i + (rk p + 1) else rk i, fun i hi d hd => ?_⟩
  · have := h4 i hi
    refine ⟨?_, ?_, fun d hd => ?_⟩
    · rw [put_kids]
      by_cases e : i = p
      · rw [if_pos e, List.length_insertIdx_of_le_length hk]; omega
      · rw [if_neg e]; exact this.1
    · rw [put_kids]
      by_cases e : i = p
      · rw [if_pos e, (List.perm_insertIdx c (tKids T p) hk).nodup_iff, List.nodup_cons]
        exact ⟨hn, (h4 p hp).2.1⟩
      · rw [if_neg e]; exact this.2.1
    · rcases (put_mem hk).mp hd with ⟨e1, e2⟩ | e
      · rw [e2]; exact ⟨hc, hc0⟩
      · exact this.2.2 d e
  · have hi' : tPres T i = true := hi
    have hi61 := tOk_lt h0 hi'
    rcases (put_mem hk).mp hd with ⟨e1, e2⟩ | e
    · subst e1; subst e2
      show (if lb (famT T d) i = true then rk i + (rk i + 1) else rk i) < (if lb (famT T d) d = true then rk d + (rk i + 1) else rk d)
      rw [if_neg (by rw [hf]; decide), if_pos (fam_self h0 hc)]
      omega
    · have r := h6 i hi' d e
      show (if lb (famT T c) i = true then rk i + (rk p + 1) else rk i) < (if lb (famT T c) d = true then rk d + (rk p + 1) else rk d)
      by_cases z : lb (famT T c) i = true
      · have z2 := fam_closed h0 c hc i d (by omega) z e
        rw [if_pos z, if_pos z2]
        omega
      · rw [if_neg z]
        by_cases z2 : lb (famT T c) d = true
        · rw [if_pos z2]; omega
        · rw [if_neg z2]; exact r
theorem put_way_out {T : Tr} (h : tOk T) {p k c : Nat} (h' : tOk (tPut T p k c)) : ∀ q, tPres T q = true → lb (famT T q) p = false → p < 64 → wayT (tPut T p k c) q = wayT T q := by
  refine dag_ind h _ (fun q hq ih hf hp => ?_)
  have hqp : q ≠ p := fun e => by
    subst e
    rw [fam_self h hq] at hf
    cases hf
  rw [way_eq h hq, way_eq h' (show tPres (tPut T p k c) q = true from hq), put_kids, if_neg hqp]
  congr 1
  refine List.map_congr_left (fun d hd => ?_)
  rw [ih d hd _ hp]
  cases e : lb (famT T d) p
  · rfl
  · rw [(lb_fam h hq hp).mpr (Or.inr ⟨d, hd, e⟩)] at hf
    cases hf
theorem put_fam {T : Tr} (h : tOk T) {p k c : Nat} (h' : tOk (tPut T p k c)) (hk : k ≤ (tKids T p).length) : ∀ q, tPres T q = true → ∀ i, i < 64 → lb (famT T q) i = true → lb (famT (tPut T p k c) q) i = true := by
  refine dag_ind h _ (fun q hq ih i hi z => ?_)
  have hq' : tPres (tPut T p k c) q = true := hq
  rcases (lb_fam h hq hi).mp z with e | ⟨d, hd, z⟩
  · exact (lb_fam h' hq' hi).mpr (Or.inl e)
  · exact (lb_fam h' hq' hi).mpr (Or.inr ⟨d, (put_mem hk).mpr (Or.inr hd), ih d hd i hi z⟩)
theorem way_sum {T : Tr} (h : tOk T) : 1 + wayT T 0 = ((ordT T).map (plcT T)).sum := by
  have := pot h (wayT T) (fun _ => 0) (fun p hp => by rw [Nat.zero_add]; exact way_eq h hp)
  rw [this]
  have z : ∀ l : List Nat, (l.map fun p => plcT T p * 0).sum = 0 := by
    intro l
    induction l with
    | nil => rfl
    | cons x y ih => rw [List.map_cons, List.sum_cons, ih]; rfl
  rw [z, Nat.add_zero]
theorem put_way {T : Tr} (h : tOk T) {p k c : Nat} (h' : tOk (tPut T p k c)) (hp : tPres T p = true) (hc : tPres T c = true) (hk : k ≤ (tKids T p).length) (hf : lb (famT T c) p = false) : wayT (tPut T p k c) 0 = wayT T 0 + plcT T p * (1 + wayT T c) := by
  have e := pot h (wayT (tPut T p k c)) (fun q => if q = p then 1 + wayT (tPut T p k c) c else 0) (fun q hq => by
    rw [way_eq h' (show tPres (tPut T p k c) q = true from hq), put_kids]
    by_cases e : q = p
    · subst e
      rw [if_pos rfl, if_pos rfl, ((List.perm_insertIdx c (tKids T q) hk).map _).sum_nat, List.map_cons, List.sum_cons]
    · rw [if_neg e, if_neg e, Nat.zero_add])
  have e2 : ((ordT T).map fun q => plcT T q * (if q = p then 1 + wayT (tPut T p k c) c else 0)).sum = plcT T p * (1 + wayT (tPut T p k c) c) := by
    have := sum_one (ord_nodup h) ((ord_mem h p).mpr hp) (fun q => plcT T q * (1 + wayT (tPut T p k c) c))
    rw [← this]
    congr 1
    refine List.map_congr_left (fun q _ => ?_)
    by_cases e : q = p
    · rw [if_pos e, if_pos e]
    · rw [if_neg e, if_neg e, Nat.mul_zero]
  have e3 := put_way_out h h' c hc hf (by have := tOk_lt h hp; omega)
  rw [e2, e3, ← way_sum h] at e
  omega
/-! pull -/
theorem pull_mem {T : Tr} {p k i d : Nat} (h : d ∈ tKids (tPull T p k) i) : d ∈ tKids T i := by
  rw [pull_kids] at h
  by_cases e : i = p
  · rw [if_pos e] at h; rw [e]; exact List.mem_of_mem_eraseIdx h
  · rw [if_neg e] at h; exact h
theorem pull_ok {T : Tr} (h : tOk T) (p k : Nat) : tOk (tPull T p k) := by
  obtain ⟨h1, h2, h3, h4, h5, rk, h6⟩ := h
  refine ⟨h1, h2, h3, fun i hi => ?_, h5, rk, fun i hi d hd => h6 i hi d (pull_mem hd)⟩
  have := h4 i hi
  refine ⟨?_, ?_, fun d hd => this.2.2 d (pull_mem hd)⟩
  · rw [pull_kids]
    by_cases e : i = p
    · subst e
      rw [if_pos rfl]
      exact Nat.le_trans (List.length_eraseIdx_le _ _) this.1
    · rw [if_neg e]; exact this.1
  · rw [pull_kids]
    by_cases e : i = p
    · subst e
      rw [if_pos rfl]
      exact List.Nodup.eraseIdx k this.2.1
    · rw [if_neg e]; exact this.2.1
theorem sub_sum {l1 l2 : List Nat} (h : l1.Sublist l2) (f : Nat → Nat) : (l1.map f).sum ≤ (l2.map f).sum := by
  induction h with
  | slnil => exact Nat.le_refl _
  | cons a _ ih => rw [List.map_cons, List.sum_cons]; omega
  | cons_cons a _ ih => rw [List.map_cons, List.sum_cons, List.map_cons, List.sum_cons]; omega
theorem sum_le {l : List Nat} {f g : Nat → Nat} (h : ∀ x, x ∈ l → f x ≤ g x) : (l.map f).sum ≤ (l.map g).sum := by
  induction l with
  | nil => exact Nat.le_refl _
  | cons a t ih =>
    rw [List.map_cons, List.sum_cons, List.map_cons, List.sum_cons]
    have := h a List.mem_cons_self
    have := ih (fun x hx => h x (List.mem_cons_of_mem _ hx))
    omega
theorem pull_sub (T : Tr) (p k i : Nat) : (tKids (tPull T p k) i).Sublist (tKids T i) := by
  rw [pull_kids]
  by_cases e : i = p
  · rw [if_pos e, e]; exact List.eraseIdx_sublist _ _
  · rw [if_neg e]; exact List.Sublist.refl _
theorem pull_way {T : Tr} (h : tOk T) (p k : Nat) : ∀ q, tPres T q = true → wayT (tPull T p k) q ≤ wayT T q := by
  refine dag_ind h _ (fun q hq ih => ?_)
  rw [way_eq h hq, way_eq (pull_ok h p k) (show tPres (tPull T p k) q = true from hq)]
  refine Nat.le_trans (sub_sum (pull_sub T p k q) _) (sum_le (fun x hx => ?_))
  have := ih x hx
  omega
/-! some items are removed -/
def tKeep (T : Tr) (F : Nat → Bool) : Tr := (tMade T, fun i => tPres T i && F i, tVal T, tDay T, tDone T, tFold T, tName T, tKids T)
theorem keep_pres (T : Tr) (F : Nat → Bool) (i : Nat) : tPres (tKeep T F) i = true ↔ tPres T i = true ∧ F i = true := by
  show (tPres T i && F i) = true ↔ _
  rw [Bool.and_eq_true]
theorem keep_ok {T : Tr} (h : tOk T) : tOk (tKeep T (lb (famT T 0))) := by
  have h0 := h
  obtain ⟨h1, h2, h3, h4, h5, rk, h6⟩ := h
  refine ⟨(keep_pres _ _ _).mpr ⟨h1, fam_self h0 h1⟩, h2, fun i hi => h3 i ((keep_pres _ _ _).mp hi).1, fun i hi => ?_, fun i hi => h5 i ((keep_pres _ _ _).mp hi).1, rk, fun i hi d hd => h6 i ((keep_pres _ _ _).mp hi).1 d hd⟩
  obtain ⟨hi1, hi2⟩ := (keep_pres _ _ _).mp hi
  have := h4 i hi1
  exact ⟨this.1, this.2.1, fun d hd => ⟨(keep_pres _ _ _).mpr ⟨(this.2.2 d hd).1, fam_closed h0 0 h1 i d (by have := tOk_lt h0 hi1; omega) hi2 hd⟩, (this.2.2 d hd).2⟩⟩
theorem keep_all {T : Tr} (h : tOk T) : tAll (tKeep T (lb (famT T 0))) := by
  intro i hi h0
  obtain ⟨hi1, hi2⟩ := (keep_pres _ _ _).mp hi
  rcases fam_up h 0 h.1 i (by have := tOk_lt h hi1; omega) hi2 with e | ⟨q, q1, q2, q3, q4⟩
  · exact absurd e h0
  · exact ⟨q, (keep_pres _ _ _).mpr ⟨q3, q2⟩, q4⟩
theorem keep_way {T : Tr} (h : tOk T) : ∀ q, tPres (tKeep T (lb (famT T 0))) q = true → wayT (tKeep T (lb (famT T 0))) q = wayT T q := by
  refine dag_ind (keep_ok h) _ (fun q hq ih => ?_)
  rw [way_eq (keep_ok h) hq, way_eq h ((keep_pres _ _ _).mp hq).1]
  congr 1
  exact List.map_congr_left (fun d hd => by rw [ih d hd])
/-! places -/
theorem plp_mono (T : Tr) (c : Nat) : ∀ (l : List Nat) (pl : Nat → Nat), pl c ≤ (l.foldl (plp T) pl) c := by
  intro l
  induction l with
  | nil => intro pl; exact Nat.le_refl _
  | cons q t ih =>
    intro pl
    rw [List.foldl_cons]
    refine Nat.le_trans ?_ (ih _)
    unfold plp
    exact Nat.le_add_right _ _
theorem plc_kid {T : Tr} (h : tOk T) {p c : Nat} (hp : tPres T p = true) (hc : c ∈ tKids T p) : plcT T p ≤ plcT T c := by
  obtain ⟨k, hk, e⟩ := List.mem_iff_getElem.mp ((ord_mem h p).mpr hp)
  have hpk : (ordT T)[k]? = some p := by rw [List.getElem?_eq_getElem hk, e]
  have e2 : plcT T = ((ordT T).drop (k + 1)).foldl (plp T) (plk T (k + 1)) := by
    unfold plcT plk
    rw [← List.foldl_append, List.take_append_drop]
  have h1 := plp_mono T c ((ordT T).drop (k + 1)) (plk T (k + 1))
  rw [← e2, plk_succ hpk] at h1
  have h2 : plk T k p ≤ plp T (plk T k) p c := by
    unfold plp
    rw [if_pos hc]
    exact Nat.le_add_left _ _
  rw [plk_at h hpk] at h2
  omega
theorem plc_root {T : Tr} (h : tOk T) : plcT T 0 = 1 := by
  unfold plcT
  rw [plp_keep]
  · rfl
  · intro p hp hc
    exact (tOk_kid h ((ord_mem h p).mp hp) hc).2.1 rfl
theorem plc_pos {T : Tr} (h : tOk T) (ha : tAll T) : ∀ i, tPres T i = true → 0 < plcT T i := by
  refine dag_up h _ (fun c hc ih => ?_)
  by_cases e : c = 0
  · rw [e, plc_root h]; decide
  · obtain ⟨p, hp, hk⟩ := ha c hc e
    exact Nat.lt_of_lt_of_le (ih p hp hk) (plc_kid h hp hk)
theorem sum_mem_le {l : List Nat} {x : Nat} (hx : x ∈ l) (f : Nat → Nat) : f x ≤ (l.map f).sum := by
  induction l with
  | nil => cases hx
  | cons a t ih =>
    rw [List.map_cons, List.sum_cons]
    rcases List.mem_cons.mp hx with z | z
    · rw [z]; omega
    · have := ih z; omega
theorem plc_le {T : Tr} (h : tOk T) {i : Nat} (hi : tPres T i = true) : plcT T i ≤ 1 + wayT T 0 := by
  rw [way_sum h]
  exact sum_mem_le ((ord_mem h i).mpr hi) _
theorem way_kid {T : Tr} (h : tOk T) {p c : Nat} (hp : tPres T p = true) (hc : c ∈ tKids T p) : 1 + wayT T c ≤ wayT T p := by
  rw [way_eq h hp]
  exact sum_mem_le hc (fun c => 1 + wayT T c)
theorem way_le {T : Tr} (h : tOk T) (ha : tAll T) : ∀ i, tPres T i = true → wayT T i ≤ wayT T 0 := by
  refine dag_up h _ (fun c hc ih => ?_)
  by_cases e : c = 0
  · rw [e]; exact Nat.le_refl _
  · obtain ⟨p, hp, hk⟩ := ha c hc e
    have := ih p hp hk
    have := way_kid h hp hk
    omega
/-- all places but that of the root -/
def allP (T : Tr) : Nat := ((List.range' 1 60).map fun i => if tPres T i = true then plcT T i else 0).sum
theorem sum_filter (l : List Nat) (P : Nat → Bool) (f : Nat → Nat) : ((l.filter P).map f).sum = (l.map fun i => if P i = true then f i else 0).sum := by
  induction l with
  | nil => rfl
  | cons a t ih =>
    rw [List.filter_cons, List.map_cons, List.sum_cons]
    by_cases c : P a = true
    · rw [if_pos c, if_pos c, List.map_cons, List.sum_cons, ih]
    · rw [if_neg c, if_neg c, ih, Nat.zero_add]
theorem ord_perm {T : Tr} (h : tOk T) : (ordT T).Perm ((List.range 61).filter (tPres T)) := by
  refine (List.perm_ext_iff_of_nodup (ord_nodup h) (List.Pairwise.filter _ List.nodup_range)).mpr (fun c => ?_)
  rw [ord_mem h, List.mem_filter, List.mem_range]
  exact ⟨fun z => ⟨tOk_lt h z, z⟩, fun z => z.2⟩
theorem allP_way {T : Tr} (h : tOk T) : allP T = wayT T 0 := by
  have e := way_sum h
  rw [((ord_perm h).map (plcT T)).sum_nat, sum_filter] at e
  have r : List.range 61 = 0 :: List.range' 1 60 := by decide
  rw [r, List.map_cons, List.sum_cons, if_pos h.1, plc_root h] at e
  unfold allP
  omega
theorem dpk_eq {T : Tr} (h : tOk T) (ha : tAll T) (hw : wayT T 0 ≤ 300) : ∀ k, dpk T (rcd T) k = dpk T tru k := by
  have key : ∀ (l : List Nat) (s : Nat → Int32), (∀ p, p ∈ l → tPres T p = true) → l.foldl (dps T (rcd T)) s = l.foldl (dps T tru) s := by
    intro l
    induction l with
    | nil => intro s _; rfl
    | cons q t ih =>
      intro s hs
      rw [List.foldl_cons, List.foldl_cons]
      have hq := hs q List.mem_cons_self
      have r : rcd T q = true := by
        have h1 := plc_pos h ha q hq
        have h2 := plc_le h hq
        exact decide_eq_true (nI_lt (a := 0) h1 (by omega))
      have e : dps T (rcd T) s q = dps T tru s q := by
        funext c
        unfold dps
        rw [r]
        rfl
      rw [e]
      exact ih _ (fun p hp => hs p (List.mem_cons_of_mem _ hp))
  intro k
  exact key _ _ (fun p hp => (ord_mem h p).mp (List.mem_of_mem_take hp))
