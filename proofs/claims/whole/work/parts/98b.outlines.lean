/-! outline, both sides -/
section OUL
variable {S : pS} {R : Nat → Option Nat} {c1 c2 m : Nat} {A : As}
def outV (A : As) (w : Int32) : Option Int32 :=
  if w = 0 then some (nI (cntB (tPres (aT A)))) else if w = 1 then some (nI (tMade (aT A))) else if w = 2 then some (nI (wayT (aT A) 0)) else if w = 3 then some (nI ((linesT A).length - 1)) else if w = 4 then some (nI (topH (aHo A))) else if w = 5 then some (nI (aHo A).length)
  else if w = 6 then some (nI (aCn A).length) else if w = 7 then some (nI (cntB (fitF (aT A) (aCn A)))) else if w = 8 then some (nI (aTx A).length) else if w = 9 then some (nI (aHi A).length) else if w = 10 then some (depT (aT A)) else none
def stOut (A : As) (w : Int32) : Rs := match outV A w with
  | none => (A, 1, 0)
  | some v => (A, 0, v)
theorem r_outline (h : RS S m A) (hA : aOk A) (w : Int32) : rC S m (F_X10_outline S m w) (stOut A w) := by
  unfold F_X10_outline stOut outV
  have hT := hA.1.1
  obtain ⟨S1, e1, h1, m1, t1⟩ := r_start h 0
  obtain ⟨S2, e5, m2, k2⟩ := r_knows h1.1 hT
  have h2 := RS_fr h1 m2 (by decide) (by decide) (by decide)
  have b2 := Bk_trans (Bk_MR m1) (Bk_MR m2)
  have t2 : fI (S2.2 m) 0 = 0 := by rw [m2.2.2.2.2 0 (by decide)]; exact t1
  have ok : ∀ v, rC S m (some (v, S2)) (A, 0, v) := fun v => ⟨_, _, rfl, h2, b2, t2, fun _ => rfl⟩
  obtain ⟨x1, x2, x3, x4, x5, x6, x7, x8, x9, x10, x11, x12, x13⟩ := h2.2
  have hs := h2.1.1
  rw [s10_oF h.1.1, e1, Option.bind_some, e5, Option.bind_some]
  by_cases w0 : w = 0
  · rw [if_pos w0, if_pos w0, r_items h2.1 hT, Option.bind_some]; exact ok _
  rw [if_neg w0, if_neg w0]
  by_cases w1 : w = 1
  · have er : oAI S2 (m + 1) .int (0 : Int32) = some (cI (S2.2 (m + 1)) 0) := s10_r1 hs (i := 0) (by decide)
    rw [if_pos w1, if_pos w1, s10_g1 hs, Option.bind_some, er, Option.bind_some, h2.1.2.1]; exact ok _
  rw [if_neg w1, if_neg w1]
  by_cases w2 : w = 2
  · rw [if_pos w2, if_pos w2, r_allPlaces h2.1 k2 hT, Option.bind_some]; exact ok _
  rw [if_neg w2, if_neg w2]
  by_cases w3 : w = 3
  · obtain ⟨S3, e3, h3, m3, L3⟩ := r_lines h2 hA
    rw [if_pos w3, if_pos w3, e3, Option.bind_some, s10_g41 h3.1.1, Option.bind_some, L3.1]
    exact ⟨_, _, rfl, h3, Bk_trans b2 (Bk_MR m3), by rw [m3.2.2.2.2 0 (by decide)]; exact t2, fun _ => rfl⟩
  rw [if_neg w3, if_neg w3]
  by_cases w4 : w = 4
  · rw [if_pos w4, if_pos w4, r_top h2 hA, Option.bind_some]; exact ok _
  rw [if_neg w4, if_neg w4]
  by_cases w5 : w = 5
  · rw [if_pos w5, if_pos w5, s10_g8 hs, Option.bind_some, x5]; exact ok _
  rw [if_neg w5, if_neg w5]
  by_cases w6 : w = 6
  · rw [if_pos w6, if_pos w6, s10_g30 hs, Option.bind_some, x12]; exact ok _
  rw [if_neg w6, if_neg w6]
  by_cases w7 : w = 7
  · rw [if_pos w7, if_pos w7, r_fitting h2 hA k2, Option.bind_some]; exact ok _
  rw [if_neg w7, if_neg w7]
  by_cases w8 : w = 8
  · rw [if_pos w8, if_pos w8, s10_g10 hs, Option.bind_some, x7]; exact ok _
  rw [if_neg w8, if_neg w8]
  by_cases w9 : w = 9
  · rw [if_pos w9, if_pos w9, s10_g5 hs, Option.bind_some, x1]; exact ok _
  rw [if_neg w9, if_neg w9]
  by_cases w10 : w = 10
  · rw [if_pos w10, if_pos w10, r_deepest h2.1 k2 hA.1, Option.bind_some]; exact ok _
  rw [if_neg w10, if_neg w10]
  exact rC_fail b2 h2 1 0 (by decide)
theorem c_outline (h : CSr S A R c1 c2) (hA : aOk A) (w : Int32) : cC S (fun _ => nIAE) (F_X9_outline S 0 w) (stOut A w) := by
  unfold F_X9_outline stOut outV
  have hT := hA.1.1
  obtain ⟨t, ht⟩ := cs_t h
  have htr := cs_tr h ht
  have hk := cs_sk h
  have hd := h.2.2.2.2.1
  have hl5 := hA.2.2.2.2.2.2.2.2.2.2.1
  have ok : ∀ v, cC S (fun _ => nIAE) (some (.inl (v, S))) (A, 0, v) := fun v => cC_ok (Fm_refl _) (cs_of h)
  rw [x_oF h.1]
  by_cases w0 : w = 0
  · rw [if_pos w0, if_pos w0, x_g0 h.1 ht, Option.bind_some, c_countItems htr hT, Option.bind_some]; exact ok _
  rw [if_neg w0, if_neg w0]
  by_cases w1 : w = 1
  · rw [if_pos w1, if_pos w1, x_g0 h.1 ht, Option.bind_some, c_added htr, Option.bind_some]; exact ok _
  rw [if_neg w1, if_neg w1]
  by_cases w2 : w = 2
  · have e2 : F_X6_placesBelow S 15 (0 : Int32) = some (nI (wayT (aT A) 0)) := c_placesBelow hk (i := 0) (by decide) hT.1
    rw [if_pos w2, if_pos w2, (x_gs h.1).1, Option.bind_some, e2, Option.bind_some]; exact ok _
  rw [if_neg w2, if_neg w2]
  by_cases w3 : w = 3
  · obtain ⟨S3, e3, h3, f3, L3⟩ := c_countLines h hA
    rw [if_pos w3, if_pos w3, e3, Option.bind_some]
    exact cC_ok f3 (cs_of h3)
  rw [if_neg w3, if_neg w3]
  by_cases w4 : w = 4
  · rw [if_pos w4, if_pos w4, (x_gs h.1).2.2.2.1, Option.bind_some, c_topH h.2.2.2.1 hA.2.2.2.2.1, Option.bind_some]; exact ok _
  rw [if_neg w4, if_neg w4]
  by_cases w5 : w = 5
  · have k0 := h.2.2.2.1
    have e5 : F_X4_size S 33 = some (nI (aHo A).length) := by
      unfold F_X4_size
      rw [s4_oF k0.1, s4_g1 k0.1, Option.bind_some, k0.2.1]
    rw [if_pos w5, if_pos w5, (x_gs h.1).2.2.2.1, Option.bind_some, e5, Option.bind_some]; exact ok _
  rw [if_neg w5, if_neg w5]
  by_cases w6 : w = 6
  · have e6 : F_X1_size S c1 = some (nI (aCn A).length) := by
      unfold F_X1_size
      rw [s1_oF hd.1, s1_g5 hd.1, Option.bind_some, hd.2.1]
    rw [if_pos w6, if_pos w6, (x_gs h.1).2.2.2.2.1, Option.bind_some, e6, Option.bind_some]; exact ok _
  rw [if_neg w6, if_neg w6]
  by_cases w7 : w = 7
  · obtain ⟨x, ex, hx⟩ := c_fitting htr hT hk hd hl5 (fun q hq => hA.2.2.2.2.2.2.2.2.2.2.2.1 q hq)
    rw [if_pos w7, if_pos w7, (x_gs h.1).2.2.2.2.1, Option.bind_some, x_g0 h.1 ht, Option.bind_some, (x_gs h.1).1, Option.bind_some, ex, Option.bind_some, bitCount_eq _ _ (fun i i1 i2 => by
      rw [hx i i2]
      cases e : tPres (aT A) i
      · rfl
      · have := tOk_lt hT e
        omega), Option.bind_some, cntB_cg (G := fitF (aT A) (aCn A)) (fun i hi => hx i (by omega))]
    exact ok _
  rw [if_neg w7, if_neg w7]
  by_cases w8 : w = 8
  · have k0 := h.2.2.2.2.2.1
    have e8 : F_X7_size S 53 = some (nI (aTx A).length) := by
      unfold F_X7_size
      rw [s7_oF k0.1, s7_g1 k0.1, Option.bind_some, k0.2.1]
    rw [if_pos w8, if_pos w8, (x_gs h.1).2.2.2.2.2.2.2.1, Option.bind_some, e8, Option.bind_some]; exact ok _
  rw [if_neg w8, if_neg w8]
  by_cases w9 : w = 9
  · rw [if_pos w9, if_pos w9, (x_gs h.1).2.2.1, Option.bind_some, h_size h.2.2.1, Option.bind_some]; exact ok _
  rw [if_neg w9, if_neg w9]
  by_cases w10 : w = 10
  · rw [if_pos w10, if_pos w10, (x_gs h.1).1, Option.bind_some, c_depth hk hT, Option.bind_some]; exact ok _
  rw [if_neg w10, if_neg w10]
  exact cC_x (Fm_refl _) (cs_of h) (by decide) rfl
end OUL
