/-! a turn for each call -/
def chkF (a b : Nat) : Bool := let d := FP.f2d (FP.fdiv (FP.i2f (Int32.ofNat a)) (FP.i2f (Int32.ofNat b))); decide (d &&& 0x7fffffffffffffff ≤ 0x7ff0000000000000) && decide (FP.dcmp d d = some .eq)
theorem chk_f : ∀ a, a < 62 → ∀ b, b < 62 → b ≠ 0 → chkF a b = true := by decide +kernel
section TRS
variable {S : pS} {A : As}
theorem sh_v (hA : aOk A) (x : Int32) (h0 : (stShare A x).2.1 = 0) : oF2d (stShare A x).2.2 = some (FP.f2d (stShare A x).2.2) ∧ FP.dcmp (FP.f2d (stShare A x).2.2) (FP.f2d (stShare A x).2.2) = some .eq := by
  have hT := hA.1.1
  unfold stShare at h0 ⊢
  rcases itN_c hT x with ⟨i, hi, rfl, hp, e, e1⟩ | ⟨e, e1⟩
  · rw [e]
    show oF2d (shareV (aT A) i) = some (FP.f2d (shareV (aT A) i)) ∧ FP.dcmp (FP.f2d (shareV (aT A) i)) (FP.f2d (shareV (aT A) i)) = some .eq
    have h := chk_f _ (cntB_le (lfdF (aT A) (lb (famT (aT A) i)))) _ (cntB_le (leafF (aT A) (lb (famT (aT A) i)))) (fam4_0 hT hp)
    unfold chkF at h
    obtain ⟨h1, h2⟩ := Bool.and_eq_true_iff.mp h
    have ev : shareV (aT A) i = FP.fdiv (FP.i2f (Int32.ofNat (cntB (lfdF (aT A) (lb (famT (aT A) i)))))) (FP.i2f (Int32.ofNat (cntB (leafF (aT A) (lb (famT (aT A) i)))))) := rfl
    rw [ev]
    refine ⟨?_, of_decide_eq_true h2⟩
    unfold oF2d
    rw [if_pos (of_decide_eq_true h1)]
  · rw [e] at h0; cases h0
theorem k_append (A : As) (x : Int32) : (stAppend A x).2.1 = 0 ∨ (stAppend A x).2.1 = 1 ∨ (stAppend A x).2.1 = 2 := by
  unfold stAppend
  repeat' split
  all_goals (first | exact Or.inl rfl | exact Or.inr (Or.inl rfl) | exact Or.inr (Or.inr (rfl)))
theorem T_append (hI : LI S A) (x : Int32) : TT S (fun j => F_L_append j S 0 x 109) (fun S1 => F_X10_append S1 68 x) tdJ := by
  obtain ⟨R, c1, c2, hc⟩ := hI.1
  have hA := hI.2.2.1
  unfold F_L_append
  refine tt_J hI (c_append hc hA x) (ok_append hA x) (fun h0 j S2 => ?_) (fun S1 h => r_append h hA x)
  rcases k_append A x with e | e | e
  · exact absurd e h0
  · rw [e]; simp [eNA, nNSE, nIOO, nIAE, nISE, nUOE]
  · rw [e]; simp [eNA, nNSE, nIOO, nIAE, nISE, nUOE]
theorem k_add (A : As) (p i : Int32) : (stAdd A p i).2.1 = 0 ∨ (stAdd A p i).2.1 = 1 ∨ (stAdd A p i).2.1 = 2 ∨ (stAdd A p i).2.1 = 3 ∨ (stAdd A p i).2.1 = 4 := by
  unfold stAdd
  repeat' split
  all_goals (first | exact Or.inl rfl | exact Or.inr (Or.inl rfl) | exact Or.inr (Or.inr (Or.inl rfl)) | exact Or.inr (Or.inr (Or.inr (Or.inl rfl))) | exact Or.inr (Or.inr (Or.inr (Or.inr (rfl)))))
theorem T_add (hI : LI S A) (p i : Int32) : TT S (fun j => F_L_add j S 0 p i 109) (fun S1 => F_X10_add S1 68 p i) tdJ := by
  obtain ⟨R, c1, c2, hc⟩ := hI.1
  have hA := hI.2.2.1
  unfold F_L_add
  refine tt_J hI (c_add hc hA p i) (ok_add hA p i) (fun h0 j S2 => ?_) (fun S1 h => r_add h hA p i)
  rcases k_add A p i with e | e | e | e | e
  · exact absurd e h0
  · rw [e]; simp [eN4, nNSE, nIOO, nIAE, nISE, nUOE]
  · rw [e]; simp [eN4, nNSE, nIOO, nIAE, nISE, nUOE]
  · rw [e]; simp [eN4, nNSE, nIOO, nIAE, nISE, nUOE]
  · rw [e]; simp [eN4, nNSE, nIOO, nIAE, nISE, nUOE]
theorem k_clone (A : As) (x p i : Int32) : (stClone A x p i).2.1 = 0 ∨ (stClone A x p i).2.1 = 1 ∨ (stClone A x p i).2.1 = 2 ∨ (stClone A x p i).2.1 = 3 := by
  unfold stClone
  repeat' split
  all_goals (first | exact Or.inl rfl | exact Or.inr (Or.inl rfl) | exact Or.inr (Or.inr (Or.inl rfl)) | exact Or.inr (Or.inr (Or.inr (rfl))))
theorem T_clone (hI : LI S A) (x p i : Int32) : TT S (fun j => F_L_clone j S 0 x p i 109) (fun S1 => F_X10_clone S1 68 x p i) tdJ := by
  obtain ⟨R, c1, c2, hc⟩ := hI.1
  have hA := hI.2.2.1
  unfold F_L_clone
  refine tt_J hI (c_clone hc hA x p i) (ok_clone hA x p i) (fun h0 j S2 => ?_) (fun S1 h => r_clone h hA x p i)
  rcases k_clone A x p i with e | e | e | e
  · exact absurd e h0
  · rw [e]; simp [eN3, nNSE, nIOO, nIAE, nISE, nUOE]
  · rw [e]; simp [eN3, nNSE, nIOO, nIAE, nISE, nUOE]
  · rw [e]; simp [eN3, nNSE, nIOO, nIAE, nISE, nUOE]
theorem k_detach (A : As) (p i : Int32) : (stDetach A p i).2.1 = 0 ∨ (stDetach A p i).2.1 = 1 ∨ (stDetach A p i).2.1 = 2 := by
  unfold stDetach
  repeat' split
  all_goals (first | exact Or.inl rfl | exact Or.inr (Or.inl rfl) | exact Or.inr (Or.inr (rfl)))
theorem T_detach (hI : LI S A) (p i : Int32) : TT S (fun j => F_L_detach j S 0 p i 109) (fun S1 => F_X10_detach S1 68 p i) tdJ := by
  obtain ⟨R, c1, c2, hc⟩ := hI.1
  have hA := hI.2.2.1
  unfold F_L_detach
  refine tt_J hI (c_detach hc hA p i) (ok_detach hA p i) (fun h0 j S2 => ?_) (fun S1 h => r_detach h hA p i)
  rcases k_detach A p i with e | e | e
  · exact absurd e h0
  · rw [e]; simp [eN2, nNSE, nIOO, nIAE, nISE, nUOE]
  · rw [e]; simp [eN2, nNSE, nIOO, nIAE, nISE, nUOE]
theorem k_moveBlock (A : As) (p f l t i : Int32) : (stMove A p f l t i).2.1 = 0 ∨ (stMove A p f l t i).2.1 = 1 ∨ (stMove A p f l t i).2.1 = 2 ∨ (stMove A p f l t i).2.1 = 3 := by
  unfold stMove stMoveOk
  repeat' split
  all_goals (first | exact Or.inl rfl | exact Or.inr (Or.inl rfl) | exact Or.inr (Or.inr (Or.inl rfl)) | exact Or.inr (Or.inr (Or.inr (rfl))))
theorem T_moveBlock (hI : LI S A) (p f l t i : Int32) : TT S (fun j => F_L_moveBlock j S 0 p f l t i 109) (fun S1 => F_X10_moveBlock S1 68 p f l t i) tdJ := by
  obtain ⟨R, c1, c2, hc⟩ := hI.1
  have hA := hI.2.2.1
  unfold F_L_moveBlock
  refine tt_J hI (c_moveBlock hc hA p f l t i) (ok_move hA p f l t i) (fun h0 j S2 => ?_) (fun S1 h => r_moveBlock h hA p f l t i)
  rcases k_moveBlock A p f l t i with e | e | e | e
  · exact absurd e h0
  · rw [e]; simp [eN3, nNSE, nIOO, nIAE, nISE, nUOE]
  · rw [e]; simp [eN3, nNSE, nIOO, nIAE, nISE, nUOE]
  · rw [e]; simp [eN3, nNSE, nIOO, nIAE, nISE, nUOE]
theorem k_indent (A : As) (x : Int32) : (stIndent A x).2.1 = 0 ∨ (stIndent A x).2.1 = 1 ∨ (stIndent A x).2.1 = 2 ∨ (stIndent A x).2.1 = 3 := by
  unfold stIndent stMoveOk
  repeat' split
  all_goals (first | exact Or.inl rfl | exact Or.inr (Or.inl rfl) | exact Or.inr (Or.inr (Or.inl rfl)) | exact Or.inr (Or.inr (Or.inr (rfl))))
theorem T_indent (hI : LI S A) (x : Int32) : TT S (fun j => F_L_indent j S 0 x 109) (fun S1 => F_X10_indent S1 68 x) tdJ := by
  obtain ⟨R, c1, c2, hc⟩ := hI.1
  have hA := hI.2.2.1
  unfold F_L_indent
  refine tt_J hI (c_indent hc hA x) (ok_indent hA x) (fun h0 j S2 => ?_) (fun S1 h => r_indent h hA x)
  rcases k_indent A x with e | e | e | e
  · exact absurd e h0
  · rw [e]; simp [eN3, nNSE, nIOO, nIAE, nISE, nUOE]
  · rw [e]; simp [eN3, nNSE, nIOO, nIAE, nISE, nUOE]
  · rw [e]; simp [eN3, nNSE, nIOO, nIAE, nISE, nUOE]
theorem k_outdent (A : As) (x : Int32) : (stOutdent A x).2.1 = 0 ∨ (stOutdent A x).2.1 = 1 ∨ (stOutdent A x).2.1 = 2 ∨ (stOutdent A x).2.1 = 3 := by
  unfold stOutdent stMoveOk
  repeat' split
  all_goals (first | exact Or.inl rfl | exact Or.inr (Or.inl rfl) | exact Or.inr (Or.inr (Or.inl rfl)) | exact Or.inr (Or.inr (Or.inr (rfl))))
theorem T_outdent (hI : LI S A) (x : Int32) : TT S (fun j => F_L_outdent j S 0 x 109) (fun S1 => F_X10_outdent S1 68 x) tdJ := by
  obtain ⟨R, c1, c2, hc⟩ := hI.1
  have hA := hI.2.2.1
  unfold F_L_outdent
  refine tt_J hI (c_outdent hc hA x) (ok_outdent hA x) (fun h0 j S2 => ?_) (fun S1 h => r_outdent h hA x)
  rcases k_outdent A x with e | e | e | e
  · exact absurd e h0
  · rw [e]; simp [eN3, nNSE, nIOO, nIAE, nISE, nUOE]
  · rw [e]; simp [eN3, nNSE, nIOO, nIAE, nISE, nUOE]
  · rw [e]; simp [eN3, nNSE, nIOO, nIAE, nISE, nUOE]
theorem k_rename (A : As) (x : Int32) : (stRename A x).2.1 = 0 ∨ (stRename A x).2.1 = 1 ∨ (stRename A x).2.1 = 2 := by
  unfold stRename
  repeat' split
  all_goals (first | exact Or.inl rfl | exact Or.inr (Or.inl rfl) | exact Or.inr (Or.inr (rfl)))
theorem T_rename (hI : LI S A) (x : Int32) : TT S (fun j => F_L_rename j S 0 x 109) (fun S1 => F_X10_rename S1 68 x) tdJ := by
  obtain ⟨R, c1, c2, hc⟩ := hI.1
  have hA := hI.2.2.1
  unfold F_L_rename
  refine tt_J hI (c_rename hc hA x) (ok_rename hA x) (fun h0 j S2 => ?_) (fun S1 h => r_rename h hA x)
  rcases k_rename A x with e | e | e
  · exact absurd e h0
  · rw [e]; simp [eN2, nNSE, nIOO, nIAE, nISE, nUOE]
  · rw [e]; simp [eN2, nNSE, nIOO, nIAE, nISE, nUOE]
theorem k_setNumber (A : As) (x d n : Int32) : (stSetNum A x d n).2.1 = 0 ∨ (stSetNum A x d n).2.1 = 1 ∨ (stSetNum A x d n).2.1 = 2 := by
  unfold stSetNum
  repeat' split
  all_goals (first | exact Or.inl rfl | exact Or.inr (Or.inl rfl) | exact Or.inr (Or.inr (rfl)))
theorem T_setNumber (hI : LI S A) (x d n : Int32) : TT S (fun j => F_L_setNumber j S 0 x d n 109) (fun S1 => F_X10_setNumber S1 68 x d n) tdJ := by
  obtain ⟨R, c1, c2, hc⟩ := hI.1
  have hA := hI.2.2.1
  unfold F_L_setNumber
  refine tt_J hI (c_setNumber hc hA x d n) (ok_setNum hA x d n) (fun h0 j S2 => ?_) (fun S1 h => r_setNumber h hA x d n)
  rcases k_setNumber A x d n with e | e | e
  · exact absurd e h0
  · rw [e]; simp [eN2, nNSE, nIOO, nIAE, nISE, nUOE]
  · rw [e]; simp [eN2, nNSE, nIOO, nIAE, nISE, nUOE]
theorem k_setFlag (A : As) (x d n : Int32) : (stSetFlag A x d n).2.1 = 0 ∨ (stSetFlag A x d n).2.1 = 1 := by
  unfold stSetFlag
  repeat' split
  all_goals (first | exact Or.inl rfl | exact Or.inr (rfl))
theorem T_setFlag (hI : LI S A) (x d n : Int32) : TT S (fun j => F_L_setFlag j S 0 x d n 109) (fun S1 => F_X10_setFlag S1 68 x d n) tdZ := by
  obtain ⟨R, c1, c2, hc⟩ := hI.1
  have hA := hI.2.2.1
  unfold F_L_setFlag
  refine tt_Z hI (c_setFlag hc hA x d n) (ok_setFlag hA x d n) (fun h0 j S2 => ?_) (fun S1 h => r_setFlag h hA x d n)
  rcases k_setFlag A x d n with e | e
  · exact absurd e h0
  · rw [e]; simp [eN2, nNSE, nIOO, nIAE, nISE, nUOE]
theorem k_item (A : As) (x w : Int32) : (stItem A x w).2.1 = 0 ∨ (stItem A x w).2.1 = 1 ∨ (stItem A x w).2.1 = 2 := by
  unfold stItem
  repeat' split
  all_goals (first | exact Or.inl rfl | exact Or.inr (Or.inl rfl) | exact Or.inr (Or.inr (rfl)))
theorem T_item (hI : LI S A) (x w : Int32) : TT S (fun j => F_L_item j S 0 x w 109) (fun S1 => F_X10_item S1 68 x w) tdJ := by
  obtain ⟨R, c1, c2, hc⟩ := hI.1
  have hA := hI.2.2.1
  unfold F_L_item
  refine tt_J hI (c_item hc hA x w) (ok_item hA x w) (fun h0 j S2 => ?_) (fun S1 h => r_item h hA x w)
  rcases k_item A x w with e | e | e
  · exact absurd e h0
  · rw [e]; simp [eN2, nNSE, nIOO, nIAE, nISE, nUOE]
  · rw [e]; simp [eN2, nNSE, nIOO, nIAE, nISE, nUOE]
theorem k_related (A : As) (x y p : Int32) : (stRelated A x y p).2.1 = 0 ∨ (stRelated A x y p).2.1 = 1 ∨ (stRelated A x y p).2.1 = 2 := by
  unfold stRelated
  repeat' split
  all_goals (first | exact Or.inl rfl | exact Or.inr (Or.inl rfl) | exact Or.inr (Or.inr (rfl)))
theorem T_related (hI : LI S A) (x y p : Int32) : TT S (fun j => F_L_related j S 0 x y p 109) (fun S1 => F_X10_related S1 68 x y p) tdJ := by
  obtain ⟨R, c1, c2, hc⟩ := hI.1
  have hA := hI.2.2.1
  unfold F_L_related
  refine tt_J hI (c_related hc hA x y p) (ok_related hA x y p) (fun h0 j S2 => ?_) (fun S1 h => r_related h hA x y p)
  rcases k_related A x y p with e | e | e
  · exact absurd e h0
  · rw [e]; simp [eN2, nNSE, nIOO, nIAE, nISE, nUOE]
  · rw [e]; simp [eN2, nNSE, nIOO, nIAE, nISE, nUOE]
theorem k_letter (A : As) (x y : Int32) : (stLetter A x y).2.1 = 0 ∨ (stLetter A x y).2.1 = 1 ∨ (stLetter A x y).2.1 = 2 := by
  unfold stLetter
  repeat' split
  all_goals (first | exact Or.inl rfl | exact Or.inr (Or.inl rfl) | exact Or.inr (Or.inr (rfl)))
theorem T_letter (hI : LI S A) (x y : Int32) : TT S (fun j => F_L_letter j S 0 x y 109) (fun S1 => F_X10_letter S1 68 x y) tdJ := by
  obtain ⟨R, c1, c2, hc⟩ := hI.1
  have hA := hI.2.2.1
  unfold F_L_letter
  refine tt_J hI (c_letterC hc hA x y) (ok_letter hA x y) (fun h0 j S2 => ?_) (fun S1 h => r_letter h hA x y)
  rcases k_letter A x y with e | e | e
  · exact absurd e h0
  · rw [e]; simp [eN2, nNSE, nIOO, nIAE, nISE, nUOE]
  · rw [e]; simp [eN2, nNSE, nIOO, nIAE, nISE, nUOE]
theorem k_isBelow (A : As) (x y : Int32) : (stBelow A x y).2.1 = 0 ∨ (stBelow A x y).2.1 = 1 := by
  unfold stBelow
  repeat' split
  all_goals (first | exact Or.inl rfl | exact Or.inr (rfl))
theorem T_isBelow (hI : LI S A) (x y : Int32) : TT S (fun j => F_L_isBelow j S 0 x y 109) (fun S1 => F_X10_isBelow S1 68 x y) tdZ := by
  obtain ⟨R, c1, c2, hc⟩ := hI.1
  have hA := hI.2.2.1
  unfold F_L_isBelow
  refine tt_Z hI (c_isBelow hc hA x y) (ok_below hA x y) (fun h0 j S2 => ?_) (fun S1 h => r_isBelow h hA x y)
  rcases k_isBelow A x y with e | e
  · exact absurd e h0
  · rw [e]; simp [eN2, nNSE, nIOO, nIAE, nISE, nUOE]
theorem k_outline (A : As) (w : Int32) : (stOut A w).2.1 = 0 ∨ (stOut A w).2.1 = 1 := by
  unfold stOut
  repeat' split
  all_goals (first | exact Or.inl rfl | exact Or.inr (rfl))
theorem T_outline (hI : LI S A) (w : Int32) : TT S (fun j => F_L_outline j S 0 w 109) (fun S1 => F_X10_outline S1 68 w) tdJ := by
  obtain ⟨R, c1, c2, hc⟩ := hI.1
  have hA := hI.2.2.1
  unfold F_L_outline
  refine tt_J hI (c_outline hc hA w) (ok_out hA w) (fun h0 j S2 => ?_) (fun S1 h => r_outline h hA w)
  rcases k_outline A w with e | e
  · exact absurd e h0
  · rw [e]; simp [nNSE, nIOO, nIAE, nISE, nUOE]
theorem k_doneShare (A : As) (x : Int32) : (stShare A x).2.1 = 0 ∨ (stShare A x).2.1 = 1 := by
  unfold stShare
  repeat' split
  all_goals (first | exact Or.inl rfl | exact Or.inr (rfl))
theorem T_doneShare (hI : LI S A) (x : Int32) : TT S (fun j => F_L_doneShare j S 0 x 110) (fun S1 => F_X10_doneShare S1 68 x) tdF := by
  obtain ⟨R, c1, c2, hc⟩ := hI.1
  have hA := hI.2.2.1
  unfold F_L_doneShare
  refine tt_F hI (c_share hc hA x) (ok_share hA x) (fun h0 j S2 => ?_) (sh_v hA x) (fun S1 h => r_share h hA x)
  rcases k_doneShare A x with e | e
  · exact absurd e h0
  · rw [e]; simp [nNSE, nIOO, nIAE, nISE, nUOE]
theorem k_meanValue (A : As) (x : Int32) : (stMean A x).2.1 = 0 ∨ (stMean A x).2.1 = 1 := by
  unfold stMean
  repeat' split
  all_goals (first | exact Or.inl rfl | exact Or.inr (rfl))
theorem T_meanValue (hI : LI S A) (x : Int32) : TT S (fun j => F_L_meanValue j S 0 x 110) (fun S1 => F_X10_meanValue S1 68 x) tdD := by
  obtain ⟨R, c1, c2, hc⟩ := hI.1
  have hA := hI.2.2.1
  unfold F_L_meanValue
  refine tt_D hI (c_mean hc hA x) (ok_mean hA x) (fun h0 j S2 => ?_) (fun S1 h => r_mean h hA x)
  rcases k_meanValue A x with e | e
  · exact absurd e h0
  · rw [e]; simp [nNSE, nIOO, nIAE, nISE, nUOE]
theorem k_hoist (A : As) (x : Int32) : (stHoist A x).2.1 = 0 ∨ (stHoist A x).2.1 = 1 ∨ (stHoist A x).2.1 = 2 := by
  unfold stHoist
  repeat' split
  all_goals (first | exact Or.inl rfl | exact Or.inr (Or.inl rfl) | exact Or.inr (Or.inr (rfl)))
theorem T_hoist (hI : LI S A) (x : Int32) : TT S (fun j => F_L_hoist j S 0 x 109) (fun S1 => F_X10_hoist S1 68 x) tdJ := by
  obtain ⟨R, c1, c2, hc⟩ := hI.1
  have hA := hI.2.2.1
  unfold F_L_hoist
  refine tt_J hI (c_hoist hc hA x) (ok_hoist hA x) (fun h0 j S2 => ?_) (fun S1 h => r_hoist h hA x)
  rcases k_hoist A x with e | e | e
  · exact absurd e h0
  · rw [e]; simp [eN2, nNSE, nIOO, nIAE, nISE, nUOE]
  · rw [e]; simp [eN2, nNSE, nIOO, nIAE, nISE, nUOE]
theorem k_unhoist (A : As) : (stUnhoist A).2.1 = 0 ∨ (stUnhoist A).2.1 = 1 := by
  unfold stUnhoist
  repeat' split
  all_goals (first | exact Or.inl rfl | exact Or.inr (rfl))
theorem T_unhoist (hI : LI S A) : TT S (fun j => F_L_unhoist j S 0 109) (fun S1 => F_X10_unhoist S1 68) tdJ := by
  obtain ⟨R, c1, c2, hc⟩ := hI.1
  have hA := hI.2.2.1
  unfold F_L_unhoist
  refine tt_J hI (c_unhoist hc hA) (ok_unhoist hA) (fun h0 j S2 => ?_) (fun S1 h => r_unhoist h hA)
  rcases k_unhoist A with e | e
  · exact absurd e h0
  · rw [e]; simp [nNSE, nIOO, nIAE, nISE, nUOE]
theorem k_filter (A : As) : (stFilter A).2.1 = 0 ∨ (stFilter A).2.1 = 1 := by
  unfold stFilter
  repeat' split
  all_goals (first | exact Or.inl rfl | exact Or.inr (rfl))
theorem T_filter (hI : LI S A) : TT S (fun j => F_L_filter j S 0 109) (fun S1 => F_X10_filter S1 68) tdJ := by
  obtain ⟨R, c1, c2, hc⟩ := hI.1
  have hA := hI.2.2.1
  unfold F_L_filter
  refine tt_J hI (c_filter hc hA) (ok_filter hA) (fun h0 j S2 => ?_) (fun S1 h => r_filter h hA)
  rcases k_filter A with e | e
  · exact absurd e h0
  · rw [e]; simp [nNSE, nIOO, nIAE, nISE, nUOE]
theorem k_line (A : As) (x w : Int32) : (stLine A x w).2.1 = 0 ∨ (stLine A x w).2.1 = 1 ∨ (stLine A x w).2.1 = 2 := by
  unfold stLine
  repeat' split
  all_goals (first | exact Or.inl rfl | exact Or.inr (Or.inl rfl) | exact Or.inr (Or.inr (rfl)))
theorem T_line (hI : LI S A) (x w : Int32) : TT S (fun j => F_L_line j S 0 x w 109) (fun S1 => F_X10_line S1 68 x w) tdJ := by
  obtain ⟨R, c1, c2, hc⟩ := hI.1
  have hA := hI.2.2.1
  unfold F_L_line
  refine tt_J hI (c_line hc hA x w) (ok_line hA x w) (fun h0 j S2 => ?_) (fun S1 h => r_line h hA x w)
  rcases k_line A x w with e | e | e
  · exact absurd e h0
  · rw [e]; simp [eN2, nNSE, nIOO, nIAE, nISE, nUOE]
  · rw [e]; simp [eN2, nNSE, nIOO, nIAE, nISE, nUOE]
theorem k_path (A : As) (x y : Int32) : (stPath A x y).2.1 = 0 ∨ (stPath A x y).2.1 = 1 ∨ (stPath A x y).2.1 = 2 := by
  unfold stPath
  repeat' split
  all_goals (first | exact Or.inl rfl | exact Or.inr (Or.inl rfl) | exact Or.inr (Or.inr (rfl)))
theorem T_path (hI : LI S A) (x y : Int32) : TT S (fun j => F_L_path j S 0 x y 109) (fun S1 => F_X10_path S1 68 x y) tdJ := by
  obtain ⟨R, c1, c2, hc⟩ := hI.1
  have hA := hI.2.2.1
  unfold F_L_path
  refine tt_J hI (c_path hc hA x y) (ok_path hA x y) (fun h0 j S2 => ?_) (fun S1 h => r_path h hA x y)
  rcases k_path A x y with e | e | e
  · exact absurd e h0
  · rw [e]; simp [eN2, nNSE, nIOO, nIAE, nISE, nUOE]
  · rw [e]; simp [eN2, nNSE, nIOO, nIAE, nISE, nUOE]
theorem k_load (A : As) (x : Int32) : (stLoad A x).2.1 = 0 ∨ (stLoad A x).2.1 = 1 ∨ (stLoad A x).2.1 = 2 ∨ (stLoad A x).2.1 = 3 := by
  unfold stLoad
  repeat' split
  all_goals (first | exact Or.inl rfl | exact Or.inr (Or.inl rfl) | exact Or.inr (Or.inr (Or.inl rfl)) | exact Or.inr (Or.inr (Or.inr (rfl))))
theorem T_load (hI : LI S A) (x : Int32) : TT S (fun j => F_L_load j S 0 x 109) (fun S1 => F_X10_load S1 68 x) tdJ := by
  obtain ⟨R, c1, c2, hc⟩ := hI.1
  have hA := hI.2.2.1
  unfold F_L_load
  refine tt_J hI (c_load hc hA x) (ok_load hA x) (fun h0 j S2 => ?_) (fun S1 h => r_load h hA x)
  rcases k_load A x with e | e | e | e
  · exact absurd e h0
  · rw [e]; simp [eN3, nNSE, nIOO, nIAE, nISE, nUOE]
  · rw [e]; simp [eN3, nNSE, nIOO, nIAE, nISE, nUOE]
  · rw [e]; simp [eN3, nNSE, nIOO, nIAE, nISE, nUOE]
theorem k_errorPosition (A : As) : (stErr A).2.1 = 0 ∨ (stErr A).2.1 = 1 := by
  unfold stErr
  repeat' split
  all_goals (first | exact Or.inl rfl | exact Or.inr (rfl))
theorem T_errorPosition (hI : LI S A) : TT S (fun j => F_L_errorPosition j S 0 109) (fun S1 => F_X10_errorPosition S1 68) tdJ := by
  obtain ⟨R, c1, c2, hc⟩ := hI.1
  have hA := hI.2.2.1
  unfold F_L_errorPosition
  refine tt_J hI (c_errorPosition hc hA) (ok_err hA) (fun h0 j S2 => ?_) (fun S1 h => r_errorPosition h hA)
  rcases k_errorPosition A with e | e
  · exact absurd e h0
  · rw [e]; simp [nNSE, nIOO, nIAE, nISE, nUOE]
theorem k_refusal (A : As) (x : Int32) : (stRefusal A x).2.1 = 0 ∨ (stRefusal A x).2.1 = 1 ∨ (stRefusal A x).2.1 = 2 := by
  unfold stRefusal
  repeat' split
  all_goals (first | exact Or.inl rfl | exact Or.inr (Or.inl rfl) | exact Or.inr (Or.inr (rfl)))
theorem T_refusal (hI : LI S A) (x : Int32) : TT S (fun j => F_L_refusal j S 0 x 109) (fun S1 => F_X10_refusal S1 68 x) tdJ := by
  obtain ⟨R, c1, c2, hc⟩ := hI.1
  have hA := hI.2.2.1
  unfold F_L_refusal
  refine tt_J hI (c_refusal hc hA x) (ok_refusal hA x) (fun h0 j S2 => ?_) (fun S1 h => r_refusal h hA x)
  rcases k_refusal A x with e | e | e
  · exact absurd e h0
  · rw [e]; simp [nNSE, nIOO, nIAE, nISE, nUOE]
  · rw [e]; simp [nNSE, nIOO, nIAE, nISE, nUOE]
theorem k_undo (A : As) : (stUndo A).2.1 = 0 ∨ (stUndo A).2.1 = 1 := by
  unfold stUndo
  repeat' split
  all_goals (first | exact Or.inl rfl | exact Or.inr (rfl))
theorem T_undo (hI : LI S A) : TT S (fun j => F_L_undo j S 0 109) (fun S1 => F_X10_undo S1 68) tdJ := by
  obtain ⟨R, c1, c2, hc⟩ := hI.1
  have hA := hI.2.2.1
  unfold F_L_undo
  refine tt_J hI (c_undo hc hA) (ok_undo hA) (fun h0 j S2 => ?_) (fun S1 h => r_undo h hA)
  rcases k_undo A with e | e
  · exact absurd e h0
  · rw [e]; simp [nNSE, nIOO, nIAE, nISE, nUOE]
theorem k_restore (A : As) : (stRestore A).2.1 = 0 ∨ (stRestore A).2.1 = 1 := by
  unfold stRestore
  repeat' split
  all_goals (first | exact Or.inl rfl | exact Or.inr (rfl))
theorem T_restore (hI : LI S A) : TT S (fun j => F_L_restore j S 0 109) (fun S1 => F_X10_restore S1 68) tdJ := by
  obtain ⟨R, c1, c2, hc⟩ := hI.1
  have hA := hI.2.2.1
  unfold F_L_restore
  refine tt_J hI (c_restore hc hA) (ok_restore hA) (fun h0 j S2 => ?_) (fun S1 h => r_restore h hA)
  rcases k_restore A with e | e
  · exact absurd e h0
  · rw [e]; simp [nNSE, nIOO, nIAE, nISE, nUOE]
theorem T_clear (hI : LI S A) : TP S (fun S => F_X9_clear S 0) (fun S1 => F_X10_clear S1 68) := by
  obtain ⟨R, c1, c2, hc⟩ := hI.1
  have hA := hI.2.2.1
  exact tp_of (o1 := fun S => F_X9_clear S 0) hI (c_clear hc hA) (ok_clear hA) rfl (fun S1 h => r_clear h hA)
theorem T_lineOf (hI : LI S A) (x : Int32) : TP S (fun S => F_X9_lineOf S 0 x) (fun S1 => F_X10_lineOf S1 68 x) := by
  obtain ⟨R, c1, c2, hc⟩ := hI.1
  have hA := hI.2.2.1
  exact tp_of (o1 := fun S => F_X9_lineOf S 0 x) hI (c_lineOf hc hA x) (ok_lineOf hA x) rfl (fun S1 h => r_lineOf h hA x)
theorem T_isConsistent (hI : LI S A) : TP S (fun S => F_X9_isConsistent S 0) (fun S1 => F_X10_isConsistent S1 68) := by
  obtain ⟨R, c1, c2, hc⟩ := hI.1
  have hA := hI.2.2.1
  exact tp_of (o1 := fun S => F_X9_isConsistent S 0) hI (c_isConsistent hc hA) (hA) rfl (fun S1 h => r_isConsistent h)
theorem T_snapshot (hI : LI S A) : TP S (fun S => F_X9_snapshot S 0) (fun S1 => F_X10_snapshot S1 68) := by
  obtain ⟨R, c1, c2, hc⟩ := hI.1
  have hA := hI.2.2.1
  exact tp_of (o1 := fun S => F_X9_snapshot S 0) hI (c_snapshot hc hA) (ok_snap hA) rfl (fun S1 h => r_snapshot h hA)
end TRS
