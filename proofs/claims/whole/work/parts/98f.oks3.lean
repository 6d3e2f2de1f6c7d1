/-! sound states stay sound: moves -/
section OK3
variable {A : As}
theorem bPul_nm (T : Tr) (p k : Nat) : ∀ n, tName (bPul T p k n).1 = tName T := by
  intro n
  induction n with
  | zero => rfl
  | succ n ih => exact ih
theorem bPut_nm (t i : Nat) : ∀ (l : List Nat) (T T' : Tr) (n : Nat), bPut t i T n l = .inl T' → tName T' = tName T := by
  intro l
  induction l with
  | nil =>
    intro T T' n h
    have h' : (Sum.inl T : Tr ⊕ (Nat × Int32)) = .inl T' := h
    cases h'
    rfl
  | cons c l ih =>
    intro T T' n h
    rw [bPut_cons] at h
    by_cases r : reaC T c t = 0
    · rw [if_pos r] at h
      have h2 := ih (tPut T t (i + n) c) T' (n + 1) h
      exact h2
    · rw [if_neg r] at h
      cases h
theorem ok_moveOk (hA : aOk A) {p f n t i : Nat} (code v : Int32) (hp : tPres (aT A) p = true) (ht : tPres (aT A) t = true) (hf : f + n ≤ (tKids (aT A) p).length) (hi : i ≤ (tKids (bPul (aT A) p f n).1 t).length) : aOk (stMoveOk A code p f n t i v).1 := by
  have hr : tName (aT A) 0 = [] := hA.2.2.2.2.2.2.2.2.2.2.2.2.1
  unfold stMoveOk
  cases e : moveT (aT A) p f n t i with
  | inl T' =>
    have hn : tName T' = tName (aT A) := by
      unfold moveT at e
      rw [bPut_nm t i _ _ _ _ e, bPul_nm]
    exact keep_aOk hA (moveT_good hA.1 hp ht hf hi e).1 (by rw [hn]; exact hr)
  | inr q =>
    refine ch_aOk hA ?_
    split
    · exact Nat.le_refl 3
    · exact show 2 ≤ 3 by decide
theorem ok_move (hA : aOk A) (p f l t i : Int32) : aOk (stMove A p f l t i).1 := by
  have hT := hA.1.1
  unfold stMove
  rcases itN_c hT p with ⟨pn, hp, rfl, hpp, e1, e2⟩ | ⟨e1, e2⟩
  · rw [e1]
    dsimp only
    have h12 := (hT.2.2.2.1 pn hpp).1
    rcases itN_c hT t with ⟨tn, ht, rfl, htp, e3, e4⟩ | ⟨e3, e4⟩
    · rw [e3]
      dsimp only
      have t12 := (hT.2.2.2.1 tn htp).1
      rcases ixN_c l (n := (tKids (aT A) pn).length) (by omega) with ⟨ln, hln, rfl, el⟩ | ⟨el, -⟩
      · rw [el]
        dsimp only
        rcases ixN_c f (n := ln + 1) (by omega) with ⟨fn, hfn, rfl, ef⟩ | ⟨ef, -⟩
        · rw [ef]
          dsimp only
          have hff : fn + (ln - fn + 1) ≤ (tKids (aT A) pn).length := by omega
          have hkt : (tKids (bPul (aT A) pn fn (ln - fn + 1)).1 tn).length = (tKids (aT A) tn).length - (if tn = pn then ln - fn + 1 else 0) := by
            by_cases d : tn = pn
            · subst d; rw [if_pos rfl]; exact bPul_p _ _ _ _ hff
            · rw [if_neg d, bPul_kids _ _ _ _ _ d]; rfl
          rw [← hkt]
          rcases ixN_c i (n := (tKids (bPul (aT A) pn fn (ln - fn + 1)).1 tn).length + 1) (by omega) with ⟨k, hk, rfl, ek⟩ | ⟨ek, -⟩
          · rw [ek]
            exact ok_moveOk hA 30 _ hpp htp hff (by omega)
          · rw [ek]; exact hA
        · rw [ef]; exact hA
      · rw [el]; exact hA
    · rw [e3]; exact hA
  · rw [e1]; exact hA
end OK3
