/-! the frame at the law's entry -/
section ENT
variable {s : State} {b L : Nat} {xs : Nat → Int32}
theorem pStr_at {i : Nat} {q : String × Nat × String} (h : pStr[i]? = some q) : i < 28 ∧ pStr.getD i ("", 0, "") = q := by
  refine ⟨(List.getElem?_eq_some_iff.mp h).1, ?_⟩
  rw [List.getD_eq_getElem?_getD, h]; rfl
/-- the String constants -/
theorem en_str (hq : ∀ c ∈ eNC, c.before #[Value.ref b] s = true) : ∃ ad : Nat → Nat, ∀ i, i < 28 → (eTm i).eval #[Value.ref b] s none [] s = some (.ref (ad i)) := by
  have h0 : ∀ i : Nat, ∃ a : Nat, i < 28 → (eTm i).eval #[Value.ref b] s none [] s = some (.ref a) := by
    intro i
    by_cases hi : i < 28
    · obtain ⟨a, c, cA, kA, q1, -⟩ := Cond.exactly_spec (args := #[Value.ref b]) (first := s) (o := none) (s := s) (idx := []) (hq _ (en_s1 i hi))
      exact ⟨a, fun _ => q1⟩
    · exact ⟨0, fun h => absurd h hi⟩
  exact Classical.axiomOfChoice h0
theorem en_val (hq : ∀ c ∈ eNC, c.before #[Value.ref b] s = true) {ad : Nat → Nat} (had : ∀ i, i < 28 → (eTm i).eval #[Value.ref b] s none [] s = some (.ref (ad i))) {A : Nat → Prop} (hA : ∀ a : Nat, a < s.heap.size → ¬ A a) :
    ∃ av : Nat → Nat, ∀ i, i < 8 → va_O "java/lang/String" (ad i) A s s.heap ∧ va_OF "java/lang/String" "coder" "B" (.int 0) (ad i) A s s.heap ∧ va_OF "java/lang/String" "value" "[B" (.ref (av i)) (ad i) A s s.heap ∧ va_T .byte (av i) (pLen.getD i 0) (fun j => .int ((pByt.getD i []).getD j 0)) A s s.heap := by
  have h0 : ∀ i : Nat, ∃ t : Nat, i < 8 → va_O "java/lang/String" (ad i) A s s.heap ∧ va_OF "java/lang/String" "coder" "B" (.int 0) (ad i) A s s.heap ∧ va_OF "java/lang/String" "value" "[B" (.ref t) (ad i) A s s.heap ∧ va_T .byte t (pLen.getD i 0) (fun j => .int ((pByt.getD i []).getD j 0)) A s s.heap := by
    intro i
    by_cases hi : i < 8
    · have hl : ∀ i, i < 8 → pLen.getD i 0 < 2 ^ 31 := by decide
      obtain ⟨e1, e2, e3⟩ := en_s2 i hi
      obtain ⟨adK, adV, ⟨h1, -⟩, h2⟩ := vk_Sof (args := #[Value.ref b]) (s := s) (N := 1) (tm := fun _ => eTm i) (len := [pLen.getD i 0]) (byt := [pByt.getD i []]) (A := A)
        (fun k hk => by have : k = 0 := by omega
                        subst this; exact hl i hi)
        (fun k hk => hq _ (en_s1 i (by omega))) (fun k hk => hq _ e1) (fun k hk => hq _ e2)
        (fun k hk => by have : k = 0 := by omega
                        subst this; exact hq _ e3)
        (fun k hk j hj => by have : k = 0 := by omega
                             subst this; exact hq _ (en_s3 i hi j hj))
        (fun i j hi hj hij => absurd (by omega) hij) hA
      have ek : adK 0 = ad i := by
        have := (h2 0 (by omega)).symm.trans (had i (by omega))
        exact Value.ref.inj (Option.some.inj this)
      have hh := h1 0 (by omega)
      rw [ek] at hh
      exact ⟨adV 0, fun _ => hh⟩
    · exact ⟨0, fun h => absurd h hi⟩
  exact Classical.axiomOfChoice h0
theorem byt_ne : ∀ i, i < 8 → ∀ j, j < 8 → i ≠ j → pLen.getD i 0 ≠ pLen.getD j 0 ∨ ∃ k, k < 5 ∧ k < pLen.getD i 0 ∧ k < pLen.getD j 0 ∧ (pByt.getD i []).getD k 0 ≠ (pByt.getD j []).getD k 0 := by decide +kernel
theorem en_vk {A : Nat → Prop} {ad av : Nat → Nat} (h : ∀ i, i < 8 → va_O "java/lang/String" (ad i) A s s.heap ∧ va_OF "java/lang/String" "coder" "B" (.int 0) (ad i) A s s.heap ∧ va_OF "java/lang/String" "value" "[B" (.ref (av i)) (ad i) A s s.heap ∧ va_T .byte (av i) (pLen.getD i 0) (fun j => .int ((pByt.getD i []).getD j 0)) A s s.heap) : vk_S 8 pLen pByt ad av A s s.heap := by
  refine ⟨h, fun i j hi hj e => ?_⟩
  refine Decidable.byContradiction fun hij => ?_
  obtain ⟨-, -, ⟨cf, k, fi, f, cell, w1, w2, w3, w4, w5, w6⟩, ⟨ca, t1, t2, t3, t4, t5, t6, t7⟩⟩ := h i hi
  obtain ⟨-, -, ⟨cf', k', fi', f', cell', v1, v2, v3, v4, v5, v6⟩, ⟨cb, r1, r2, r3, r4, r5, r6, r7⟩⟩ := h j hj
  rw [← e] at v3
  cases w1.symm.trans v1
  cases w3.symm.trans v3
  have ea := w5.symm.trans v5
  have ea2 : av i = av j := Value.ref.inj (Option.some.inj ea)
  rw [← ea2] at r1
  cases t1.symm.trans r1
  have hlen : ∀ i, i < 8 → pLen.getD i 0 < 6 := by decide
  rcases byt_ne i hi j hj hij with hd | ⟨k0, k1, k2, k3, k4⟩
  · have h9 : Int32.ofNat (pLen.getD i 0) = Int32.ofNat (pLen.getD j 0) := t5.symm.trans r5
    have h8 := congrArg Int32.toInt h9
    have l1 := hlen i hi
    have l2 := hlen j hj
    rw [Int32.toInt_ofNat_of_lt (by omega), Int32.toInt_ofNat_of_lt (by omega)] at h8
    omega
  · have h9 := (t6 k0 k2).symm.trans (r6 k0 k3)
    exact k4 (Value.int.inj (Option.some.inj h9))
/-- the class tables -/
theorem en_K (hts : ∀ w ∈ lw_tbl, w.before #[Value.ref b] s = true) : ∃ D : va_G, va_K D vwCl [] s := by
  have h0 : ∀ c : Nat, ∃ p : ClassId × (Nat → Nat), ∀ q : vw_C, vwCl[c]? = some q → u_Kn s q.1 q.2.1 q.2.2 p.1 p.2 := by
    intro c
    cases e : vwCl[c]? with
    | none => exact ⟨(0, fun _ => 0), fun q hq => by cases hq⟩
    | some q =>
      obtain ⟨w1, w2⟩ := en_t6 q (List.mem_of_getElem? e)
      obtain ⟨cC, iS, hu⟩ := u_known hts w1 (hts _ w2)
      exact ⟨(cC, iS), fun q' hq => by cases hq; exact hu⟩
  obtain ⟨f, hf⟩ := Classical.axiomOfChoice h0
  exact ⟨(fun c => (f c).1, fun c => (f c).2), fun c q hq => hf c q hq, fun k q hk => by simp at hk⟩
theorem en_arr (hts : ∀ w ∈ lw_tbl, w.before #[Value.ref b] s = true) : ∃ g : FieldType → ClassId, ∀ ty ∈ pTys, ArrOfT s (g ty) ty ∧ va_RA s (g ty) ty := by
  have h0 : ∀ ty : FieldType, ∃ cA : ClassId, ty ∈ pTys → ArrOfT s cA ty ∧ va_RA s cA ty := by
    intro ty
    by_cases ht : ty ∈ pTys
    · by_cases ho : ty = .object "CloneOutliner$Tree"
      · subst ho
        obtain ⟨comp, c, k, h1, -, h3, h4, h5⟩ := Cond.arrayOver_spec (hts _ en_t2.2.2.2.2.2.2.2)
        exact ⟨c, fun _ => ⟨fun n z => ⟨(fun k h => by cases h), k, h3, comp, h4⟩, k, comp, h3, h4, h1, h5⟩⟩
      · have hm : ty ∈ ([.int, .char, .long, .boolean, .double] : List FieldType) := by
          simp only [pTys, List.mem_cons, List.not_mem_nil, or_false] at ht ⊢
          rcases ht with h | h | h | h | h | h
          · exact Or.inl h
          · exact Or.inr (Or.inl h)
          · exact Or.inr (Or.inr (Or.inl h))
          · exact Or.inr (Or.inr (Or.inr (Or.inl h)))
          · exact Or.inr (Or.inr (Or.inr (Or.inr h)))
          · exact absurd h ho
        obtain ⟨c, k, comp, h1, h2, h3⟩ := Cond.arrayClass_spec (hts _ (en_t7 ty hm))
        refine ⟨c, fun _ => ⟨fun n z => ⟨(fun k h => by cases h), k, h2, comp, h3⟩, ?_⟩⟩
        cases ty with
        | object C => exact absurd hm (by simp)
        | _ => exact h1
    · exact ⟨0, fun h => absurd h ht⟩
  exact Classical.axiomOfChoice h0
/-- all of it -/
theorem en_pk (hts : ∀ w ∈ lw_tbl, w.before #[Value.ref b] s = true) (hX : va_X b L xs s s.heap) (hbl : b < s.heap.size) (hgv : (Jvm.Cond.and given_1 narrow_1).before #[Value.ref b] s = true) :
    ∃ X : pX, pk X s ∧ X.1 = s.heap.size ∧ X.2.1 0 = b ∧ X.2.2.2.2.1 = L := by
  have hq : ∀ c ∈ eNC, c.before #[Value.ref b] s = true := flat_of_before _ hgv
  obtain ⟨D, hK⟩ := en_K hts
  obtain ⟨g, hg⟩ := en_arr hts
  obtain ⟨ad, had⟩ := en_str hq
  have hA : ∀ a : Nat, a < s.heap.size → ¬ (fun q => s.heap.size ≤ q) a := fun a h1 h2 => Nat.not_le.mpr h1 h2
  obtain ⟨av, hav⟩ := en_val hq had hA
  obtain ⟨c1, c2, c3, c4⟩ := en_st
  obtain ⟨l1, l2, l3, l4, i1, i2, i3, o1⟩ := en_t2
  have hF : ∃ t, va_Z "jdk/internal/util/Preconditions" "SIOOBE_FORMATTER" "Ljava/util/function/BiFunction;" .null (fun q => s.heap.size ≤ q) s s.heap ∨ va_Z "jdk/internal/util/Preconditions" "SIOOBE_FORMATTER" "Ljava/util/function/BiFunction;" (.ref t) (fun q => s.heap.size ≤ q) s s.heap := by
    rcases va_Zqof (hts _ l4) (hts _ i3) (hq _ c4) hA with h | ⟨t, h⟩
    · exact ⟨0, Or.inl h⟩
    · exact ⟨t, Or.inr h⟩
  obtain ⟨ft, hft⟩ := hF
  refine ⟨(s.heap.size, (fun i => if i = 0 then b else if i < 29 then ad (i - 1) else if i < 108 then av (i - 100) else ft), D, g, L, xs), ⟨hK, hg, vx_Zqof (hts _ l1) (hts _ i1) (hq _ c1) hA, vx_Zqof (hts _ l2) (hts _ i1) (hq _ c2) hA, fun i q hi => ?_, ?_, hX, hbl, Nat.le_refl _, fun q hq' => ?_, fun q hq' => ?_, fun q hq' => ?_, va_AO.of (hts _ o1), fun q hq' => ?_, va_Zof (hts _ l3) (hts _ i2) (va_eqi (hq _ c3)) hA, hft⟩, rfl, rfl, rfl⟩
  · obtain ⟨h1, h2⟩ := pStr_at hi
    show vk_R q.1 q.2.1 q.2.2 (if i + 1 = 0 then b else if i + 1 < 29 then ad (i + 1 - 1) else if i + 1 < 108 then av (i + 1 - 100) else ft) s
    rw [if_neg (by omega), if_pos (by omega), Nat.add_sub_cancel]
    have h3 := had i h1
    unfold eTm at h3
    rw [h2] at h3
    exact vk_R.of (hts _ (en_t1 q (List.mem_of_getElem? hi))) h3
  · refine en_vk (fun i hi => ?_)
    show va_O "java/lang/String" (if i + 1 = 0 then b else if i + 1 < 29 then ad (i + 1 - 1) else if i + 1 < 108 then av (i + 1 - 100) else ft) _ s s.heap ∧ va_OF "java/lang/String" "coder" "B" (.int 0) (if i + 1 = 0 then b else if i + 1 < 29 then ad (i + 1 - 1) else if i + 1 < 108 then av (i + 1 - 100) else ft) _ s s.heap ∧ va_OF "java/lang/String" "value" "[B" (.ref (if i + 100 = 0 then b else if i + 100 < 29 then ad (i + 100 - 1) else if i + 100 < 108 then av (i + 100 - 100) else ft)) (if i + 1 = 0 then b else if i + 1 < 29 then ad (i + 1 - 1) else if i + 1 < 108 then av (i + 1 - 100) else ft) _ s s.heap ∧ va_T .byte (if i + 100 = 0 then b else if i + 100 < 29 then ad (i + 100 - 1) else if i + 100 < 108 then av (i + 100 - 100) else ft) _ _ _ s s.heap
    rw [if_neg (show ¬ i + 1 = 0 by omega), if_pos (show i + 1 < 29 by omega), if_neg (show ¬ i + 100 = 0 by omega), if_neg (show ¬ i + 100 < 29 by omega), if_pos (show i + 100 < 108 by omega), Nat.add_sub_cancel, Nat.add_sub_cancel]
    exact hav i hi
  · obtain ⟨w1, w2⟩ := en_t3 q hq'
    exact va_tabs w2 rfl (hts _ w1)
  · obtain ⟨w1, w2⟩ := en_t4 q hq'
    exact va_tabs w2 rfl (hts _ w1)
  · exact va_Nc.of (hq _ (en_nc q hq'))
  · obtain ⟨w1, w2⟩ := en_t5 q hq'
    exact va_tabs w2 rfl (hts _ w1)
end ENT
