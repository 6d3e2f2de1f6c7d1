/-! the class: a change is adopted -/
section ADO
variable {S : pS} {R : Nat → Option Nat} {c1 c2 : Nat} {er : Int32} {T : Tr} {A : As}
theorem c_ends {H : List Nat} (h : HS S H) (hl : H.length ≤ 4) (hb : ∀ i, i ∈ H → i < 61) {p : Int64} (hp : ∀ i, i < 64 → lb p i = tPres T i) : ∃ S', F_X4_endUnlessAllIn S 33 p = some S' ∧ S'.1 = S.1 ∧ (∀ q, ¬ (33 ≤ q ∧ q < 35) → S'.2 q = S.2 q) ∧ HS S' (chkH T H) := by
  unfold F_X4_endUnlessAllIn
  obtain ⟨h1, h2, h3⟩ := h
  obtain ⟨S1, e, hS⟩ := iter_fu (F := F_X4_endUnlessAllIn_2 33 p) (s := ((0 : Int32), S)) (fun k s => s.1 = nI k ∧ ((s.2 = S ∧ ((H.take k).all fun i => tPres T i) = true) ∨ (s.2 = wF S 33 1 (.int 0) ∧ (H.all fun i => tPres T i) = false)))
    (P := fun s => (s = S ∧ (H.all fun i => tPres T i) = true) ∨ (s = wF S 33 1 (.int 0) ∧ (H.all fun i => tPres T i) = false)) H.length (by omega) ⟨rfl, Or.inl ⟨rfl, by simp⟩⟩
    (by
      rintro ⟨b, S1⟩ ⟨q1, q2⟩
      dsimp only at q1 q2
      subst q1
      unfold F_X4_endUnlessAllIn_2
      rcases q2 with ⟨rfl, q2⟩ | ⟨rfl, q2⟩
      · rw [s4_g1 h1, Option.bind_some, h2, if_pos (Int32.le_refl _)]
        rw [List.take_length] at q2
        exact ⟨_, rfl, Or.inl ⟨rfl, q2⟩⟩
      · rw [s4_g1 (s4_k1 h1 h1 0), Option.bind_some, s4_v1 h1, if_pos (show (0 : Int32) ≤ nI H.length from nI_pos' (by omega))]
        exact ⟨_, rfl, Or.inr ⟨rfl, q2⟩⟩)
    (by
      rintro k ⟨b, S1⟩ hk ⟨q1, q2⟩
      dsimp only at q1 q2
      subst q1
      unfold F_X4_endUnlessAllIn_2
      rcases q2 with ⟨rfl, q2⟩ | ⟨rfl, q2⟩
      · have hkH := List.getElem?_eq_getElem hk
        have h61 := hb _ (List.getElem_mem hk)
        rw [s4_g1 h1, Option.bind_some, h2, if_neg (nI_ge hk (by omega)), s4_g0 h1, Option.bind_some]
        dsimp only
        rw [s4_r0 h1 (by omega), Option.bind_some, h3 k _ hkH, contains_eq _ _ (by omega), Option.bind_some, hp _ (by omega), nI_1]
        cases c : tPres T H[k]
        · rw [ite4 rfl, s4_p1 h1, Option.bind_some]
          refine ⟨_, rfl, rfl, Or.inr ⟨rfl, ?_⟩⟩
          rw [List.all_eq_false]
          exact ⟨_, List.getElem_mem hk, by rw [c]; decide⟩
        · rw [ite5 rfl]
          refine ⟨_, rfl, rfl, Or.inl ⟨rfl, ?_⟩⟩
          rw [List.take_succ_eq_append_getElem hk, List.all_append, q2]
          simp [c]
      · rw [s4_g1 (s4_k1 h1 h1 0), Option.bind_some, s4_v1 h1, if_pos (show (0 : Int32) ≤ nI k from nI_pos' (by omega))]
        exact ⟨_, rfl, Or.inr ⟨rfl, q2⟩⟩)
  rw [s4_oF h1, e, Option.bind_some]
  rcases hS with ⟨rfl, q⟩ | ⟨rfl, q⟩
  · refine ⟨_, rfl, rfl, fun _ _ => rfl, ?_⟩
    unfold chkH
    rw [if_pos q]
    exact ⟨h1, h2, h3⟩
  · refine ⟨_, rfl, rfl, fun q hq => wF_ne _ _ _ (by omega), ?_⟩
    unfold chkH
    rw [q, if_neg (by decide)]
    exact ⟨s4_k1 h1 h1 0, s4_v1 h1 0, fun k i hk => by simp at hk⟩
theorem c_settle (x : XO S R c1 c2 er) (ts : TS S R) {t : Nat} (ht : R 0 = some t) (h : TR S t T) (hT : tOk T) (sv : Sh S 15 sp6) {H : List Nat} (hh : HS S H) (hl : H.length ≤ 4) (hb : ∀ i, i ∈ H → i < 61) :
    ∃ S', F_X9_settle S 0 = some S' ∧ S'.1 = S.1 ∧ (∀ q, ¬ (15 ≤ q ∧ q < 23) → ¬ (33 ≤ q ∧ q < 35) → S'.2 q = S.2 q) ∧ SK S' 15 T ∧ HS S' (chkH T H) := by
  unfold F_X9_settle
  have hp := (ts.1 0 t (by omega) ht).1
  have hab : t + 7 ≤ 15 ∨ 15 + 8 ≤ t := by omega
  obtain ⟨S1, e1, m1, k1⟩ := c_measure sv h hab hT
  have x1 := XO_fr x (Nat.le_of_eq m1.2.1.symm) (m1.2.2.1 0 (by omega))
  have h1 := MS_TR m1 hab h
  have hh1 := HS_fr hh (Nat.le_of_eq m1.2.1.symm) (fun q q1 q2 => m1.2.2.1 q (by omega))
  rw [x_oF x, (x_gs x).1, Option.bind_some, x_g0 x ht, Option.bind_some, e1, Option.bind_some, (x_gs x1).2.2.2.1, Option.bind_some, x_g0 x1 ht, Option.bind_some, c_present h1, Option.bind_some]
  obtain ⟨S2, e2, n2, o2, hh2⟩ := c_ends (T := T) hh1 hl hb h1.2.2.1
  rw [e2, Option.bind_some]
  refine ⟨S2, rfl, n2.trans m1.2.1, fun q q1 q2 => ?_, SK_fr k1 (Nat.le_of_eq n2.symm) (fun q q1 q2 => o2 q (by omega)), hh2⟩
  rw [o2 q q2]
  exact m1.2.2.1 q (by omega)
theorem TS_perm {R' : Nat → Option Nat} (h : TS S R) (π : Nat → Nat) (hπ : ∀ i j, i < 11 → j < 11 → i ≠ j → π i ≠ π j) (hb : ∀ i, i < 11 → π i < 11) (e : ∀ i, i < 11 → R' i = R (π i)) : TS S R' := by
  refine ⟨fun i a hi ha => h.1 (π i) a (hb i hi) (by rw [← e i hi]; exact ha), fun i j a b hi hj hij ha hb' => h.2 (π i) (π j) a b (hb i hi) (hb j hj) (hπ i j hi hj hij) (by rw [← e i hi]; exact ha) (by rw [← e j hj]; exact hb')⟩
theorem TS_new (h : TS S R) {a : Nat} (ha : 111 ≤ a) (hs : Sh S a sp8) (hsep : ∀ i b, i < 11 → R i = some b → b + 7 ≤ a) (k : Nat) : TS S (pu R k (some a)) := by
  refine ⟨fun i b hi hb => ?_, fun i j b c hi hj hij hb hc => ?_⟩
  · by_cases e : i = k
    · subst e
      rw [pu_at] at hb
      cases hb
      exact ⟨Or.inr (Or.inr ha), hs⟩
    · rw [pu_ne _ _ _ e] at hb
      exact h.1 i b hi hb
  · by_cases e : i = k
    · subst e
      rw [pu_at] at hb
      cases hb
      rw [pu_ne _ _ _ (fun z => hij z.symm)] at hc
      exact Or.inr (hsep j c hj hc)
    · rw [pu_ne _ _ _ e] at hb
      by_cases e2 : j = k
      · subst e2
        rw [pu_at] at hc
        cases hc
        exact Or.inl (hsep i b hi hb)
      · rw [pu_ne _ _ _ e2] at hc
        exact h.2 i j b c hi hj hij hb hc
/-! the history's row -/
theorem h_g {n : Nat} (h : HO S R n) {β : Type} {k : Option β} : ((oF S 31 3).bind fun _ => k) = k ∧ oGI S 31 3 1 = some (nI n) ∧ oGA S 31 3 0 = some 32 := by
  obtain ⟨h0, ⟨g, h1, h2, h3⟩, -⟩ := h
  have hl : 31 < S.1 := by omega
  refine ⟨by rw [oF_mk hl h1]; rfl, ?_, ?_⟩
  · unfold oGI; rw [oF_mk hl h1, Option.bind_some, h3]
  · unfold oGA; rw [oF_mk hl h1, Option.bind_some, h2]
theorem h_r {n k : Nat} (h : HO S R n) (hk : k < 8) : oAR S 32 (.object "CloneOutliner$Tree") (nI k) = some (R (3 + k)) := by
  obtain ⟨h0, -, q, h1, h2⟩ := h
  unfold oAR
  rw [oArR_mk (by omega) h1, Option.bind_some, if_neg (nI_in hk (by decide)), nI_clamp (by omega)]
  show some (q k) = _
  rw [h2 k hk]
/-- one place of the row is put -/
theorem h_w {n k t : Nat} (h : HO S R n) (hk : k < 8) (ht : Sh S t sp8) : ∃ S1, oSQ S 32 (nI k) (some t) = some S1 ∧ S1.1 = S.1 ∧ (∀ q, q ≠ 32 → S1.2 q = S.2 q) ∧ ∀ R', R' (3 + k) = some t → (∀ j, j < 8 → j ≠ k → R' (3 + j) = R (3 + j)) → HO S1 R' n := by
  obtain ⟨h0, h1, q, h2, h3⟩ := h
  obtain ⟨f, e1, -⟩ := sh_obj ht rfl
  refine ⟨(S.1, pu S.2 32 (.inl (.object "CloneOutliner$Tree", 8, .inr (.inr (.inr (.inr (pu q k (some t)))))))), ?_, rfl, fun j hj => pu_ne _ _ _ hj, fun R' r1 r2 => ⟨h0, ?_, _, pu_at S.2 32 _, fun j hj => ?_⟩⟩
  · unfold oSQ oSR
    dsimp only
    rw [e1, Option.bind_some, oArR_mk (by omega) h2, Option.bind_some, if_neg (nI_in hk (by decide)), nI_clamp (by omega)]
  · obtain ⟨g, g1, g2⟩ := h1
    exact ⟨g, g1, g2⟩
  · by_cases c : j = k
    · rw [c, pu_at, r1]
    · rw [pu_ne _ _ _ c, h3 j hj, r2 j hj c]
theorem h_n {n : Nat} (h : HO S R n) (v : Nat) : ∃ S1, oPI S 31 3 1 (nI v) = some S1 ∧ S1.1 = S.1 ∧ (∀ q, q ≠ 31 → S1.2 q = S.2 q) ∧ HO S1 R v := by
  obtain ⟨h0, ⟨g, g1, g2, g3⟩, q, h2, h3⟩ := h
  obtain ⟨S1, e, n1, f1, o1⟩ := fld_P g1 (by omega) 1 (.int (nI v))
  refine ⟨S1, e, n1, o1, by omega, ⟨_, f1, ?_, pu_at _ _ _⟩, q, (o1 32 (by decide)).trans h2, h3⟩
  rw [pu_ne _ _ _ (by decide)]; exact g2
theorem TS_sep (ts : TS S R) (i b : Nat) (hi : i < 11) (hb : R i = some b) : b + 7 ≤ S.1 := (ts.1 i b hi hb).2.1
/-- the end of a push: the free tree, or a new one -/
theorem c_push85 (ts : TS S R) (h111 : 111 ≤ S.1) (fr : Option Nat) (k : Nat) (hk : fr = R k) (hk11 : k < 11) : ∃ a S', F_X3_push_85 S fr = some (a, S') ∧ S.1 ≤ S'.1 ∧ (∀ q, q < S.1 → S'.2 q = S.2 q) ∧ TS S' (pu R k (some a)) := by
  unfold F_X3_push_85
  cases fr with
  | none =>
    obtain ⟨S', e, h1, h2, h3⟩ := newTree S
    dsimp only
    rw [e, Option.bind_some]
    refine ⟨S.1, S', rfl, by omega, h3, TS_new (TS_fr ts (by omega) (fun i a q hi ha q1 q2 => h3 q (by have := TS_sep ts i a hi ha; omega))) h111 h1.1 (fun i b hi hb => TS_sep ts i b hi hb) k⟩
  | some b =>
    refine ⟨b, S, rfl, Nat.le_refl _, fun _ _ => rfl, ?_⟩
    have : pu R k (some b) = R := by
      funext i
      by_cases c : i = k
      · rw [c, pu_at, hk]
      · rw [pu_ne _ _ _ c]
    rw [this]
    exact ts
/-- the roles behind a change -/
def rolA (R : Nat → Option Nat) (n a : Nat) : Nat → Option Nat := fun i => if i = 0 then R 1 else if i = 1 then some a else if n = 8 then (if i = 10 then R 0 else if 3 ≤ i then R (i + 1) else R i) else if i = 3 + n then R 0 else R i
def pi8 (i : Nat) : Nat := if i = 0 then 1 else if i = 1 then 3 else if i = 10 then 0 else if 3 ≤ i then i + 1 else i
def pin (n i : Nat) : Nat := if i = 0 then 1 else if i = 1 then 3 + n else if i = 3 + n then 0 else i
theorem pi8_i : ∀ i, i < 11 → ∀ j, j < 11 → i ≠ j → pi8 i ≠ pi8 j := by decide +kernel
theorem pi8_b : ∀ i, i < 11 → pi8 i < 11 := by decide +kernel
theorem pin_i : ∀ n, n < 8 → ∀ i, i < 11 → ∀ j, j < 11 → i ≠ j → pin n i ≠ pin n j := by decide +kernel
theorem pin_b : ∀ n, n < 8 → ∀ i, i < 11 → pin n i < 11 := by decide +kernel
theorem rolA_TS {n a : Nat} (hn : n ≤ 8) (ts : TS S (pu R (if n = 8 then 3 else 3 + n) (some a))) : TS S (rolA R n a) := by
  by_cases c : n = 8
  · subst c
    rw [if_pos rfl] at ts
    refine TS_perm ts pi8 (fun i j hi hj hij => pi8_i i hi j hj hij) pi8_b (fun i hi => ?_)
    · unfold rolA pu pi8
      by_cases c0 : i = 0
      · subst c0; simp
      · by_cases c1 : i = 1
        · subst c1; simp
        · by_cases c2 : i = 10
          · subst c2; simp
          · by_cases c3 : 3 ≤ i
            · have : ¬ i + 1 = 3 := by omega
              simp [c0, c1, c2, c3, this]
            · have : ¬ i = 3 := by omega
              simp [c0, c1, c2, c3, this]
  · rw [if_neg c] at ts
    refine TS_perm ts (pin n) (fun i j hi hj hij => pin_i n (by omega) i hi j hj hij) (pin_b n (by omega)) (fun i hi => ?_)
    · unfold rolA pu pin
      by_cases c0 : i = 0
      · subst c0
        have : ¬ (1 : Nat) = 3 + n := by omega
        simp [this]
      · by_cases c1 : i = 1
        · subst c1; simp
        · by_cases c2 : i = 3 + n
          · subst c2
            have : ¬ (0 : Nat) = 3 + n := by omega
            simp [c, this, c1]
          · simp [c0, c1, c2, c]
theorem c_push (x : XO S R c1 c2 er) (ts : TS S R) {n : Nat} (hn : n ≤ 8) (ho : HO S R n) (hfull : n = 8 → ∀ k, k < 8 → ∃ a, R (3 + k) = some a) {t : Nat} (ht : R 0 = some t) : ∃ a S', F_X3_push S 31 t = some (a, S') ∧ S.1 ≤ S'.1 ∧ (∀ q, q < S.1 → ¬ (31 ≤ q ∧ q < 33) → S'.2 q = S.2 q) ∧ TS S' (rolA R n a) ∧ HO S' (rolA R n a) (if n = 8 then 8 else n + 1) := by
  have h111 := x.1
  have htS := (ts.1 0 t (by omega) ht).2
  unfold F_X3_push
  rw [(h_g ho).1, (h_g ho (k := (none : Option Nat))).2.1, Option.bind_some]
  by_cases c : n = 8
  · subst c
    rw [if_pos (by decide), (h_g ho (k := (none : Option Nat))).2.2, Option.bind_some]
    have e0 : oAR S 32 (.object "CloneOutliner$Tree") (0 : Int32) = some (R 3) := h_r ho (k := 0) (by decide)
    rw [e0, Option.bind_some]
    obtain ⟨S1, e1, n1, o1, ho1⟩ := iter_fu (F := F_X3_push_51 31 t (R 3)) (s := ((1 : Int32), S)) (fun k s => s.1 = nI (1 + k) ∧ s.2.1 = S.1 ∧ (∀ q, q ≠ 32 → s.2.2 q = S.2 q) ∧ HO s.2 (fun i => if 3 ≤ i ∧ i < 3 + k then R (i + 1) else R i) 8)
      (P := fun s => s.1 = S.1 ∧ (∀ q, q ≠ 32 → s.2 q = S.2 q) ∧ HO s (fun i => if 3 ≤ i ∧ i < 10 then R (i + 1) else R i) 8) 7 (by decide) ⟨rfl, rfl, fun _ _ => rfl, by
        have : (fun i => if 3 ≤ i ∧ i < 3 + 0 then R (i + 1) else R i) = R := by
          funext i
          rw [if_neg (by omega)]
        rw [this]; exact ho⟩
      (by
        rintro ⟨b, S1⟩ ⟨q1, q2, q3, q4⟩
        dsimp only at q1 q2 q3 q4
        subst q1
        unfold F_X3_push_51
        rw [if_pos (by show (8 : Int32) ≤ nI (1 + 7); decide)]
        exact ⟨_, rfl, q2, q3, q4⟩)
      (by
        rintro k ⟨b, S1⟩ hk ⟨q1, q2, q3, q4⟩
        dsimp only at q1 q2 q3 q4
        subst q1
        unfold F_X3_push_51
        have hne : ¬ (8 : Int32) ≤ nI (1 + k) := nI_ge (b := 8) (by omega) (by decide)
        rw [if_neg hne, (h_g q4 (k := (none : Option Nat))).2.2, Option.bind_some, Option.bind_some]
        dsimp only
        rw [h_r q4 (show 1 + k < 8 by omega), Option.bind_some, if_neg (by omega), show nI (1 + k) - 1 = nI k by rw [Nat.add_comm, nI_pred]]
        -- the tree that is moved
        have hsome : ∀ b, R (3 + (1 + k)) = some b → Sh S1 b sp8 := fun b hb => by
          have hbp := ts.1 _ b (by omega) hb
          refine sh_fr hbp.2 (Nat.le_of_eq q2.symm) (fun q z1 z2 => q3 q ?_)
          have : sp8.length = 7 := rfl
          omega
        cases hb : R (3 + (1 + k)) with
        | none =>
          obtain ⟨a, ha⟩ := hfull rfl (1 + k) (by omega)
          rw [hb] at ha
          cases ha
        | some b =>
          obtain ⟨S2, e2, n2, o2, ho2⟩ := h_w q4 (show k < 8 by omega) (hsome b hb)
          rw [e2, Option.bind_some, nI_1]
          refine ⟨_, rfl, rfl, n2.trans q2, fun q hq => (o2 q hq).trans (q3 q hq), ho2 _ ?_ (fun j hj hjk => ?_)⟩
          · rw [if_pos (by omega), show 3 + k + 1 = 3 + (1 + k) by omega]; exact hb
          · by_cases d : 3 ≤ 3 + j ∧ 3 + j < 3 + k
            · rw [if_pos d, if_pos (by omega)]
            · rw [if_neg d, if_neg (by omega)])
    rw [e1, Option.bind_some, (h_g ho1 (k := (none : Option Nat))).2.2, Option.bind_some]
    have htS1 : Sh S1 t sp8 := sh_fr htS (Nat.le_of_eq n1.symm) (fun q z1 z2 => o1 q (by
      have := (ts.1 0 t (by omega) ht).1
      have : sp8.length = 7 := rfl
      omega))
    obtain ⟨S2, e2, n2, o2, ho2⟩ := h_w ho1 (show 7 < 8 by decide) htS1
    have e2' : oSQ S1 32 (7 : Int32) (some t) = some S2 := e2
    rw [e2', Option.bind_some]
    have ts2 : TS S2 R := TS_fr ts (by omega) (fun i a q hi ha q1 q2 => by
      have := (ts.1 i a hi ha).1
      rw [o2 q (by omega), o1 q (by omega)])
    obtain ⟨a, S3, e3, n3, o3, ts3⟩ := c_push85 ts2 (by omega) (R 3) 3 rfl (by decide)
    refine ⟨a, S3, e3, by omega, fun q q1 q2 => by rw [o3 q (by omega), o2 q (by omega), o1 q (by omega)], rolA_TS hn (by rw [if_pos rfl]; exact ts3), ?_⟩
    rw [if_pos rfl]
    have hoB := ho2 (rolA R 8 a) (by unfold rolA; simp [ht]) (fun j hj hj7 => by
      unfold rolA
      rw [if_neg (by omega), if_neg (by omega), if_pos rfl, if_neg (by omega), if_pos (by omega), if_pos (by omega)])
    exact HO_fr hoB n3 (fun q q1 q2 => o3 q (by omega))
  · have hn8 : n < 8 := by omega
    rw [if_neg (show ¬ (8 : Int32) ≤ nI n from nI_ge (b := 8) hn8 (by decide)), (h_g ho (k := (none : Option Nat))).2.2, Option.bind_some, Option.bind_some, h_r ho hn8, Option.bind_some, Option.bind_some, Option.bind_some]
    obtain ⟨S1, e1, n1, o1, ho1⟩ := h_w ho hn8 htS
    rw [e1, Option.bind_some]
    have hoA := ho1 (pu R (3 + n) (some t)) (pu_at _ _ _) (fun j hj hjn => pu_ne _ _ _ (by omega))
    rw [(h_g hoA (k := (none : Option Nat))).2.1, Option.bind_some, nI_1]
    obtain ⟨S2, e2, n2, o2, ho2⟩ := h_n hoA (n + 1)
    rw [e2, Option.bind_some]
    have ts2 : TS S2 R := TS_fr ts (by omega) (fun i a q hi ha q1 q2 => by
      have := (ts.1 i a hi ha).1
      rw [o2 q (by omega), o1 q (by omega)])
    obtain ⟨a, S3, e3, n3, o3, ts3⟩ := c_push85 ts2 (by omega) (R (3 + n)) (3 + n) rfl (by omega)
    refine ⟨a, S3, e3, by omega, fun q q1 q2 => by rw [o3 q (by omega), o2 q (by omega), o1 q (by omega)], rolA_TS hn (by rw [if_neg c]; exact ts3), ?_⟩
    rw [if_neg c]
    have ho3 := HO_fr ho2 n3 (fun q q1 q2 => o3 q (by omega))
    obtain ⟨w1, w2, q, w3, w4⟩ := ho3
    refine ⟨w1, w2, q, w3, fun k hk => ?_⟩
    rw [w4 k hk]
    unfold rolA
    rw [if_neg (by omega), if_neg (by omega), if_neg c]
    by_cases d : k = n
    · subst d; rw [pu_at, if_pos rfl, ht]
    · rw [pu_ne _ _ _ (by omega), if_neg (by omega)]
end ADO
