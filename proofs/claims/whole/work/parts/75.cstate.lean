/-! the class's state. R: where the trees lie (0 the tree, 1 the draft, 2 the saved one, 3 to 10 the history's) -/
def erI (e : Option Nat) : Int32 := match e with
  | none => -1000000
  | some k => nI k
def XO (S : pS) (R : Nat → Option Nat) (c1 c2 : Nat) (er : Int32) : Prop := 111 ≤ S.1 ∧ ∃ f, S.2 0 = .inr (9, f) ∧ (∃ t, R 0 = some t ∧ f 0 = .ref t) ∧ (∃ d, R 1 = some d ∧ f 1 = .ref d) ∧ f 2 = va_rf (R 2) ∧ f 3 = .ref 15 ∧ f 4 = .ref 23 ∧ f 5 = .ref 31 ∧ f 6 = .ref 33 ∧ f 7 = .ref c1 ∧ f 8 = .ref c2 ∧ f 9 = .ref 47 ∧ f 10 = .ref 53 ∧ f 11 = .ref 55 ∧ f 12 = .ref 64 ∧ f 13 = .ref 66 ∧ f 14 = .ref 67 ∧ f 15 = .int er
/-- the trees lie apart, in places of their own -/
def TS (S : pS) (R : Nat → Option Nat) : Prop := (∀ i a, i < 11 → R i = some a → (a = 1 ∨ a = 8 ∨ 111 ≤ a) ∧ Sh S a sp8) ∧ ∀ i j a b, i < 11 → j < 11 → i ≠ j → R i = some a → R j = some b → a + 7 ≤ b ∨ b + 7 ≤ a
def HO (S : pS) (R : Nat → Option Nat) (n : Nat) : Prop := 111 ≤ S.1 ∧ (∃ g, S.2 31 = .inr (3, g) ∧ g 0 = .ref 32 ∧ g 1 = .int (nI n)) ∧ ∃ q, S.2 32 = .inl (.object "CloneOutliner$Tree", 8, .inr (.inr (.inr (.inr q)))) ∧ ∀ k, k < 8 → q k = R (3 + k)
def HS (S : pS) (H : List Nat) : Prop := Sh S 33 sp4 ∧ fI (S.2 33) 1 = nI H.length ∧ ∀ (k i : Nat), H[k]? = some i → cI (S.2 34) k = nI i
def CD (S : pS) (c : Nat) (L : List Cnd) : Prop := Sh S c sp1 ∧ fI (S.2 c) 5 = nI L.length ∧ ∀ (n : Nat) (q : Cnd), L[n]? = some q → cI (S.2 (c + 1)) n = nI q.1 ∧ cI (S.2 (c + 2)) n = (if q.2.1 = true then 1 else 0) ∧ (q.1 = 4 ∨ q.1 = 5 → cI (S.2 (c + 3)) n = q.2.2.1) ∧
  (q.1 = 6 → cI (S.2 (c + 5)) n = nI q.2.2.2.length ∧ ∀ (k : Nat) x, q.2.2.2[k]? = some x → cI (S.2 (c + 4)) (10 * n + k) = x)
def XT (S : pS) (tx : List Int32) : Prop := Sh S 53 sp7 ∧ fI (S.2 53) 1 = nI tx.length ∧ ∀ (k : Nat) x, tx[k]? = some x → cI (S.2 54) k = x
def CN (S : pS) (l : List Int32) : Prop := Sh S 64 sp0 ∧ fI (S.2 64) 1 = nI l.length ∧ ∀ (k : Nat) x, l[k]? = some x → cI (S.2 65) k = x
def rawA (S : pS) (a : Nat) (ty : FieldType) (n : Nat) : Prop := a < S.1 ∧ ∃ f, S.2 a = .inl (ty, n, .inl f) ∧ ∀ i, fits ty (.int (f i)) = true
/-- scratch: the trial, the spare conditions, the lines, the entries, the two rows -/
def SC (S : pS) (c2 : Nat) : Prop := Sh S 23 sp6 ∧ Sh S c2 sp1 ∧ Sh S 47 sp5 ∧ Sh S 55 sp2 ∧ rawA S 66 .char 10 ∧ rawA S 67 .int 12
/-- which outlines the trees hold -/
def TH (S : pS) (R : Nat → Option Nat) (A : As) : Prop := (∀ t, R 0 = some t → TR S t (aT A)) ∧ (match aSv A with
    | none => R 2 = none
    | some U => ∃ a, R 2 = some a ∧ TR S a U) ∧ ∀ (k : Nat) U, (aHi A)[k]? = some U → ∃ a, R (3 + k) = some a ∧ TR S a U
def CSr (S : pS) (A : As) (R : Nat → Option Nat) (c1 c2 : Nat) : Prop := XO S R c1 c2 (erI (aEr A)) ∧ TS S R ∧ HO S R (aHi A).length ∧ HS S (aHo A) ∧ CD S c1 (aCn A) ∧ XT S (aTx A) ∧ CN S (aCh A) ∧ SC S c2 ∧ TH S R A ∧ SK S 15 (aT A) ∧ ((c1 = 35 ∧ c2 = 41) ∨ (c1 = 41 ∧ c2 = 35)) ∧ (aHi A).length ≤ 8
def CS (S : pS) (A : As) : Prop := ∃ R c1 c2, CSr S A R c1 c2
section CST
variable {S S' : pS} {R : Nat → Option Nat} {c1 c2 : Nat} {er : Int32}
/-! frames -/
theorem XO_fr (h : XO S R c1 c2 er) (hn : S.1 ≤ S'.1) (e : S'.2 0 = S.2 0) : XO S' R c1 c2 er := ⟨Nat.le_trans h.1 hn, by rw [e]; exact h.2⟩
theorem HO_fr {n : Nat} (h : HO S R n) (hn : S.1 ≤ S'.1) (e : ∀ q, 31 ≤ q → q < 33 → S'.2 q = S.2 q) : HO S' R n := ⟨Nat.le_trans h.1 hn, by rw [e 31 (by omega) (by omega), e 32 (by omega) (by omega)]; exact h.2⟩
theorem HS_fr {H : List Nat} (h : HS S H) (hn : S.1 ≤ S'.1) (e : ∀ q, 33 ≤ q → q < 35 → S'.2 q = S.2 q) : HS S' H := by
  refine ⟨sh_fr h.1 hn e, ?_⟩
  rw [e 33 (by omega) (by omega), e 34 (by omega) (by omega)]; exact h.2
theorem CD_fr {c : Nat} {L : List Cnd} (h : CD S c L) (hn : S.1 ≤ S'.1) (e : ∀ q, c ≤ q → q < c + 6 → S'.2 q = S.2 q) : CD S' c L := by
  refine ⟨sh_fr h.1 hn e, ?_⟩
  rw [e c (by omega) (by omega), e (c + 1) (by omega) (by omega), e (c + 2) (by omega) (by omega), e (c + 3) (by omega) (by omega), e (c + 4) (by omega) (by omega), e (c + 5) (by omega) (by omega)]; exact h.2
theorem XT_fr {tx : List Int32} (h : XT S tx) (hn : S.1 ≤ S'.1) (e : ∀ q, 53 ≤ q → q < 55 → S'.2 q = S.2 q) : XT S' tx := by
  refine ⟨sh_fr h.1 hn e, ?_⟩
  rw [e 53 (by omega) (by omega), e 54 (by omega) (by omega)]; exact h.2
theorem CN_fr {l : List Int32} (h : CN S l) (hn : S.1 ≤ S'.1) (e : ∀ q, 64 ≤ q → q < 66 → S'.2 q = S.2 q) : CN S' l := by
  refine ⟨sh_fr h.1 hn e, ?_⟩
  rw [e 64 (by omega) (by omega), e 65 (by omega) (by omega)]; exact h.2
theorem rawA_fr {a n : Nat} {ty : FieldType} (h : rawA S a ty n) (hn : S.1 ≤ S'.1) (e : S'.2 a = S.2 a) : rawA S' a ty n := ⟨Nat.lt_of_lt_of_le h.1 hn, by rw [e]; exact h.2⟩
theorem SC_fr (h : SC S c2) (hn : S.1 ≤ S'.1) (hc : c2 = 35 ∨ c2 = 41) (e : ∀ q, (23 ≤ q ∧ q < 31) ∨ (c2 ≤ q ∧ q < c2 + 6) ∨ (47 ≤ q ∧ q < 53) ∨ (55 ≤ q ∧ q < 64) ∨ q = 66 ∨ q = 67 → S'.2 q = S.2 q) : SC S' c2 := by
  obtain ⟨h1, h2, h3, h4, h5, h6⟩ := h
  exact ⟨sh_fr h1 hn (fun q a b => e q (Or.inl ⟨a, b⟩)), sh_fr h2 hn (fun q a b => e q (Or.inr (Or.inl ⟨a, b⟩))), sh_fr h3 hn (fun q a b => e q (Or.inr (Or.inr (Or.inl ⟨a, b⟩)))), sh_fr h4 hn (fun q a b => e q (Or.inr (Or.inr (Or.inr (Or.inl ⟨a, b⟩))))), rawA_fr h5 hn (e 66 (by omega)), rawA_fr h6 hn (e 67 (by omega))⟩
theorem SK_fr {b : Nat} {T : Tr} (h : SK S b T) (hn : S.1 ≤ S'.1) (e : ∀ q, b ≤ q → q < b + 8 → S'.2 q = S.2 q) : SK S' b T := by
  refine ⟨sh_fr h.1 hn e, ?_⟩
  rw [e b (by omega) (by omega), e (b + 1) (by omega) (by omega), e (b + 3) (by omega) (by omega), e (b + 4) (by omega) (by omega), e (b + 5) (by omega) (by omega), e (b + 6) (by omega) (by omega), e (b + 7) (by omega) (by omega)]; exact h.2
theorem TS_fr (h : TS S R) (hn : S.1 ≤ S'.1) (e : ∀ i a q, i < 11 → R i = some a → a ≤ q → q < a + 7 → S'.2 q = S.2 q) : TS S' R :=
  ⟨fun i a hi ha => ⟨(h.1 i a hi ha).1, sh_fr (h.1 i a hi ha).2 hn (fun q h1 h2 => e i a q hi ha h1 h2)⟩, h.2⟩
/-- the cells that nobody's state lies in may change -/
theorem CSr_fr {A : As} (h : CSr S A R c1 c2) (hn : S.1 ≤ S'.1) (hs : SC S' c2) (hd : ∀ d, R 1 = some d → Sh S' d sp8) (e : ∀ q, q < S.1 → ¬ ((23 ≤ q ∧ q < 31) ∨ (c2 ≤ q ∧ q < c2 + 6) ∨ (47 ≤ q ∧ q < 53) ∨ (55 ≤ q ∧ q < 64) ∨ q = 66 ∨ q = 67 ∨ (68 ≤ q ∧ q < 111) ∨ ∃ d, R 1 = some d ∧ d ≤ q ∧ q < d + 7) → S'.2 q = S.2 q) : CSr S' A R c1 c2 := by
  obtain ⟨a1, a2, a3, a4, a5, a6, a7, a8, a9, a10, a11, a12⟩ := h
  have h111 := a1.1
  have hd0 : ∀ q d, R 1 = some d → q < 111 → 15 ≤ q → ¬ (d ≤ q ∧ q < d + 7) := fun q d hq h1 h2 => by
    have := (a2.1 1 d (by omega) hq).1
    omega
  have low : ∀ q, q < 68 → (q = 0 ∨ 15 ≤ q) → ¬ ((23 ≤ q ∧ q < 31) ∨ (c2 ≤ q ∧ q < c2 + 6) ∨ (47 ≤ q ∧ q < 53) ∨ (55 ≤ q ∧ q < 64) ∨ q = 66 ∨ q = 67) → S'.2 q = S.2 q := fun q h1 h2 h3 => by
    refine e q (by omega) ?_
    rintro (z | z | z | z | z | z | z | ⟨d, z1, z2⟩)
    · exact h3 (Or.inl z)
    · exact h3 (Or.inr (Or.inl z))
    · exact h3 (Or.inr (Or.inr (Or.inl z)))
    · exact h3 (Or.inr (Or.inr (Or.inr (Or.inl z))))
    · exact h3 (Or.inr (Or.inr (Or.inr (Or.inr (Or.inl z)))))
    · exact h3 (Or.inr (Or.inr (Or.inr (Or.inr (Or.inr z)))))
    · omega
    · have := (a2.1 1 d (by omega) z1).1
      omega
  have tr : ∀ i a q, i < 11 → i ≠ 1 → R i = some a → a ≤ q → q < a + 7 → S'.2 q = S.2 q := fun i a q hi h1 ha h2 h3 => by
    have hp := a2.1 i a hi ha
    have hsz := hp.2.1
    have hl : sp8.length = 7 := rfl
    refine e q (by omega) ?_
    rintro (z | z | z | z | z | z | z | ⟨d, z1, z2⟩)
    · omega
    · omega
    · omega
    · omega
    · omega
    · omega
    · omega
    · have := a2.2 i 1 a d hi (by omega) h1 ha z1
      omega
  refine ⟨XO_fr a1 hn (low 0 (by omega) (by omega) (by omega)), ⟨fun i a hi ha => ⟨(a2.1 i a hi ha).1, ?_⟩, a2.2⟩, HO_fr a3 hn (fun q h1 h2 => low q (by omega) (by omega) (by omega)), HS_fr a4 hn (fun q h1 h2 => low q (by omega) (by omega) (by omega)), CD_fr a5 hn (fun q h1 h2 => low q (by omega) (by omega) (by omega)), XT_fr a6 hn (fun q h1 h2 => low q (by omega) (by omega) (by omega)), CN_fr a7 hn (fun q h1 h2 => low q (by omega) (by omega) (by omega)), hs, ?_, SK_fr a10 hn (fun q h1 h2 => low q (by omega) (by omega) (by omega)), a11, a12⟩
  · by_cases c : i = 1
    · subst c; exact hd a ha
    · exact sh_fr (a2.1 i a hi ha).2 hn (fun q h1 h2 => tr i a q hi c ha h1 h2)
  · obtain ⟨b1, b2, b3⟩ := a9
    refine ⟨fun t ht => TR_fr (b1 t ht) hn (fun q h1 h2 => tr 0 t q (by omega) (by omega) ht h1 h2), ?_, fun k U hk => ?_⟩
    · cases es : aSv A with
      | none => rw [es] at b2; exact b2
      | some U =>
        rw [es] at b2
        obtain ⟨a, h1, h2⟩ := b2
        exact ⟨a, h1, TR_fr h2 hn (fun q h3 h4 => tr 2 a q (by omega) (by omega) h1 h3 h4)⟩
    · obtain ⟨a, h1, h2⟩ := b3 k U hk
      by_cases c : 3 + k < 11
      · exact ⟨a, h1, TR_fr h2 hn (fun q h3 h4 => tr (3 + k) a q c (by omega) h1 h3 h4)⟩
      · have := (List.getElem?_eq_some_iff.mp hk).1
        omega
/-! the object's fields -/
theorem x_oF (h : XO S R c1 c2 er) {β : Type} {k : Option β} : ((oF S 0 9).bind fun _ => k) = k := by
  obtain ⟨h1, f, h2, -⟩ := h
  rw [oF_mk (by omega) h2]; rfl
theorem x_get (h : XO S R c1 c2 er) {k a : Nat} (e : ∀ f, S.2 0 = .inr (9, f) → f k = .ref a) : oGA S 0 9 k = some a := by
  obtain ⟨h1, f, h2, -⟩ := h
  unfold oGA
  rw [oF_mk (by omega) h2, Option.bind_some, e f h2]
theorem x_inj {f g : Nat → Value} (h : S.2 0 = .inr (9, f)) (h2 : S.2 0 = .inr (9, g)) : f = g := by
  rw [h] at h2
  cases h2
  rfl
theorem x_g0 (h : XO S R c1 c2 er) {t : Nat} (ht : R 0 = some t) : oGA S 0 9 0 = some t := x_get h (fun f hf => by
  obtain ⟨h1, f', h2, ⟨t', h3, h4⟩, -⟩ := h
  rw [x_inj hf h2, h4]
  rw [ht] at h3
  cases h3
  rfl)
theorem x_g1 (h : XO S R c1 c2 er) {t : Nat} (ht : R 1 = some t) : oGA S 0 9 1 = some t := x_get h (fun f hf => by
  obtain ⟨h1, f', h2, -, ⟨t', h3, h4⟩, -⟩ := h
  rw [x_inj hf h2, h4]
  rw [ht] at h3
  cases h3
  rfl)
theorem x_g2 (h : XO S R c1 c2 er) : oGN S 0 9 2 = some (R 2) := by
  obtain ⟨h1, f, h2, -, -, h3, -⟩ := h
  unfold oGN
  rw [oF_mk (by omega) h2, Option.bind_some, h3]
  cases R 2 <;> rfl
theorem x_gs (h : XO S R c1 c2 er) : oGA S 0 9 3 = some 15 ∧ oGA S 0 9 4 = some 23 ∧ oGA S 0 9 5 = some 31 ∧ oGA S 0 9 6 = some 33 ∧ oGA S 0 9 7 = some c1 ∧ oGA S 0 9 8 = some c2 ∧ oGA S 0 9 9 = some 47 ∧ oGA S 0 9 10 = some 53 ∧ oGA S 0 9 11 = some 55 ∧ oGA S 0 9 12 = some 64 ∧ oGA S 0 9 13 = some 66 ∧ oGA S 0 9 14 = some 67 ∧ oGI S 0 9 15 = some er := by
  have h0 := h
  obtain ⟨h1, f, h2, -, -, -, a3, a4, a5, a6, a7, a8, a9, a10, a11, a12, a13, a14, a15⟩ := h
  refine ⟨x_get h0 (fun g hg => by rw [x_inj hg h2, a3]), x_get h0 (fun g hg => by rw [x_inj hg h2, a4]), x_get h0 (fun g hg => by rw [x_inj hg h2, a5]), x_get h0 (fun g hg => by rw [x_inj hg h2, a6]), x_get h0 (fun g hg => by rw [x_inj hg h2, a7]), x_get h0 (fun g hg => by rw [x_inj hg h2, a8]), x_get h0 (fun g hg => by rw [x_inj hg h2, a9]), x_get h0 (fun g hg => by rw [x_inj hg h2, a10]), x_get h0 (fun g hg => by rw [x_inj hg h2, a11]), x_get h0 (fun g hg => by rw [x_inj hg h2, a12]), x_get h0 (fun g hg => by rw [x_inj hg h2, a13]), x_get h0 (fun g hg => by rw [x_inj hg h2, a14]), ?_⟩
  unfold oGI
  rw [oF_mk (by omega) h2, Option.bind_some, a15]
/-- one field is put -/
theorem x_put (h : XO S R c1 c2 er) (k : Nat) (v : Value) : ∃ S1 f, oP S 0 9 k v = some S1 ∧ S1.1 = S.1 ∧ (∀ q, q ≠ 0 → S1.2 q = S.2 q) ∧ S.2 0 = .inr (9, f) ∧ S1.2 0 = .inr (9, pu f k v) := by
  obtain ⟨h1, f, h2, -⟩ := h
  refine ⟨(S.1, pu S.2 0 (.inr (9, pu f k v))), f, ?_, rfl, fun q hq => pu_ne _ _ _ hq, h2, pu_at S.2 0 _⟩
  unfold oP
  rw [oF_mk (by omega) h2, Option.bind_some]
theorem x_p0 (h : XO S R c1 c2 er) (t : Nat) : ∃ S1, oPA S 0 9 0 t = some S1 ∧ S1.1 = S.1 ∧ (∀ q, q ≠ 0 → S1.2 q = S.2 q) ∧ ∀ R', R' 0 = some t → R' 1 = R 1 → R' 2 = R 2 → XO S1 R' c1 c2 er := by
  obtain ⟨S1, f, e, n, o, f0, f1⟩ := x_put h 0 (.ref t)
  refine ⟨S1, e, n, o, fun R' r0 r1 r2 => ?_⟩
  obtain ⟨h1, f', h2, a0, a1, a2, a3⟩ := h
  cases x_inj f0 h2
  refine ⟨by omega, _, f1, ⟨t, r0, pu_at _ _ _⟩, by rw [r1, pu_ne _ _ _ (by decide)]; exact a1, by rw [r2, pu_ne _ _ _ (by decide)]; exact a2, ?_⟩
  simpa [pu] using a3
theorem x_p1 (h : XO S R c1 c2 er) (t : Nat) : ∃ S1, oPA S 0 9 1 t = some S1 ∧ S1.1 = S.1 ∧ (∀ q, q ≠ 0 → S1.2 q = S.2 q) ∧ ∀ R', R' 0 = R 0 → R' 1 = some t → R' 2 = R 2 → XO S1 R' c1 c2 er := by
  obtain ⟨S1, f, e, n, o, f0, f1⟩ := x_put h 1 (.ref t)
  refine ⟨S1, e, n, o, fun R' r0 r1 r2 => ?_⟩
  obtain ⟨h1, f', h2, a0, a1, a2, a3⟩ := h
  cases x_inj f0 h2
  refine ⟨by omega, _, f1, by rw [r0, pu_ne _ _ _ (by decide)]; exact a0, ⟨t, r1, pu_at _ _ _⟩, by rw [r2, pu_ne _ _ _ (by decide)]; exact a2, ?_⟩
  simpa [pu] using a3
theorem x_p2 (h : XO S R c1 c2 er) (t : Nat) : ∃ S1, oPA S 0 9 2 t = some S1 ∧ S1.1 = S.1 ∧ (∀ q, q ≠ 0 → S1.2 q = S.2 q) ∧ ∀ R', R' 0 = R 0 → R' 1 = R 1 → R' 2 = some t → XO S1 R' c1 c2 er := by
  obtain ⟨S1, f, e, n, o, f0, f1⟩ := x_put h 2 (.ref t)
  refine ⟨S1, e, n, o, fun R' r0 r1 r2 => ?_⟩
  obtain ⟨h1, f', h2, a0, a1, a2, a3⟩ := h
  cases x_inj f0 h2
  refine ⟨by omega, _, f1, by rw [r0, pu_ne _ _ _ (by decide)]; exact a0, by rw [r1, pu_ne _ _ _ (by decide)]; exact a1, by rw [r2, pu_at]; rfl, ?_⟩
  simpa [pu] using a3
theorem x_p15 (h : XO S R c1 c2 er) (v : Int32) : ∃ S1, oPI S 0 9 15 v = some S1 ∧ S1.1 = S.1 ∧ (∀ q, q ≠ 0 → S1.2 q = S.2 q) ∧ XO S1 R c1 c2 v := by
  obtain ⟨S1, f, e, n, o, f0, f1⟩ := x_put h 15 (.int v)
  refine ⟨S1, e, n, o, ?_⟩
  obtain ⟨h1, f', h2, a0, a1, a2, a3, a4, a5, a6, a7, a8, a9, a10, a11, a12, a13, a14, a15⟩ := h
  cases x_inj f0 h2
  refine ⟨by omega, _, f1, ?_⟩
  simp [pu]
  exact ⟨a0, a1, a2, a3, a4, a5, a6, a7, a8, a9, a10, a11, a12, a13, a14⟩
theorem x_p7 (h : XO S R c1 c2 er) (c : Nat) : ∃ S1, oPA S 0 9 7 c = some S1 ∧ S1.1 = S.1 ∧ (∀ q, q ≠ 0 → S1.2 q = S.2 q) ∧ XO S1 R c c2 er := by
  obtain ⟨S1, f, e, n, o, f0, f1⟩ := x_put h 7 (.ref c)
  refine ⟨S1, e, n, o, ?_⟩
  obtain ⟨h1, f', h2, a0, a1, a2, a3, a4, a5, a6, a7, a8, a9, a10, a11, a12, a13, a14, a15⟩ := h
  cases x_inj f0 h2
  refine ⟨by omega, _, f1, ?_⟩
  simp [pu]
  exact ⟨a0, a1, a2, a3, a4, a5, a6, a8, a9, a10, a11, a12, a13, a14, a15⟩
theorem x_p8 (h : XO S R c1 c2 er) (c : Nat) : ∃ S1, oPA S 0 9 8 c = some S1 ∧ S1.1 = S.1 ∧ (∀ q, q ≠ 0 → S1.2 q = S.2 q) ∧ XO S1 R c1 c er := by
  obtain ⟨S1, f, e, n, o, f0, f1⟩ := x_put h 8 (.ref c)
  refine ⟨S1, e, n, o, ?_⟩
  obtain ⟨h1, f', h2, a0, a1, a2, a3, a4, a5, a6, a7, a8, a9, a10, a11, a12, a13, a14, a15⟩ := h
  cases x_inj f0 h2
  refine ⟨by omega, _, f1, ?_⟩
  simp [pu]
  exact ⟨a0, a1, a2, a3, a4, a5, a6, a7, a9, a10, a11, a12, a13, a14, a15⟩
end CST
