/-! divisions that give numbers -/
theorem fp_bound {f : Jvm.FP.Core.Fmt} (s : Bool) (c : Nat) (q : Int) : Jvm.FP.Core.bound f s c q ≠ .nan := by
  unfold Jvm.FP.Core.bound
  split <;> (intro h; cases h)
theorem fp_ratio (f : Jvm.FP.Core.Fmt) (s : Bool) (n d : Nat) (e : Int) : Jvm.FP.Core.roundRatio f s n d e ≠ .nan := by
  unfold Jvm.FP.Core.roundRatio
  split
  · intro h; cases h
  · unfold Jvm.FP.Core.roundAt Jvm.FP.Core.settle
    split <;> exact fp_bound _ _ _
theorem fp_i2d (x : Int32) : Jvm.FP.Core.val64 (FP.i2d x) ≠ .nan := by
  have := Jvm.FP.Core.val64_i2d x
  rw [show FP.i2d = Jvm.FP.Core.i2d from rfl, this]
  exact fp_ratio _ _ _ _ _
theorem fp_i2f (x : Int32) : Jvm.FP.Core.val32 (FP.i2f x) ≠ .nan := by
  have := Jvm.FP.Core.val32_i2f x
  rw [show FP.i2f = Jvm.FP.Core.i2f from rfl, this]
  exact fp_ratio _ _ _ _ _
theorem fp_quot {f : Jvm.FP.Core.Fmt} {a : Jvm.FP.Core.Datum} {t : Bool} {d : Nat} {r : Int} (ha : a ≠ .nan) (hd : d ≠ 0) : Jvm.FP.Core.quotient f a (.fin t d r) ≠ .nan := by
  cases a with
  | nan => exact absurd rfl ha
  | inf s => intro h; cases h
  | fin s c q =>
    show (if d = 0 then _ else _) ≠ _
    rw [if_neg hd]
    exact fp_ratio _ _ _ _ _
def fpFin (d : Jvm.FP.Core.Datum) : Bool := match d with
  | .fin _ c _ => decide (c ≠ 0)
  | _ => false
theorem fp_fin {d : Jvm.FP.Core.Datum} (h : fpFin d = true) : ∃ t c r, d = .fin t c r ∧ c ≠ 0 := by
  cases d with
  | nan => cases h
  | inf s => cases h
  | fin t c r => exact ⟨t, c, r, rfl, of_decide_eq_true h⟩
theorem fp_n64 : ∀ n, n < 62 → n ≠ 0 → fpFin (Jvm.FP.Core.val64 (FP.i2d (Int32.ofNat n))) = true := by decide +kernel
theorem fp_n32 : ∀ n, n < 62 → n ≠ 0 → fpFin (Jvm.FP.Core.val32 (FP.i2f (Int32.ofNat n))) = true := by decide +kernel
theorem fp_low {a p : Nat} (h : a / 2 ^ p ≠ 2047 ∨ a % 2 ^ p = 0) (hb : a / 2 ^ p < 2048) : a ≤ 2047 * 2 ^ p := by
  have e := Nat.div_add_mod a (2 ^ p)
  have l := Nat.mod_lt a (Nat.two_pow_pos p)
  rcases Nat.lt_or_ge (a / 2 ^ p) 2047 with z | z
  · have : 2 ^ p * (a / 2 ^ p) + 2 ^ p ≤ 2 ^ p * 2047 := by
      rw [← Nat.mul_succ]
      exact Nat.mul_le_mul_left _ z
    omega
  · have z2 : a / 2 ^ p = 2047 := by omega
    rcases h with h | h
    · exact absurd z2 h
    · rw [z2, h] at e
      omega
theorem fp_num64 {x : UInt64} (h : Jvm.FP.Core.val64 x ≠ .nan) : x &&& 0x7fffffffffffffff ≤ 0x7ff0000000000000 := by
  rw [UInt64.le_iff_toNat_le, UInt64.toNat_and]
  have e1 : (0x7fffffffffffffff : UInt64).toNat = 2 ^ 63 - 1 := by decide
  have e2 : (0x7ff0000000000000 : UInt64).toNat = 2047 * 2 ^ 52 := by decide
  rw [e1, e2, Nat.and_two_pow_sub_one_eq_mod]
  unfold Jvm.FP.Core.val64 Jvm.FP.Core.decode at h
  have ft : Jvm.FP.Core.fieldT Jvm.FP.Core.b64 x.toNat = x.toNat % 2 ^ 52 := rfl
  have fe : Jvm.FP.Core.fieldE Jvm.FP.Core.b64 x.toNat = x.toNat / 2 ^ 52 % 2 ^ 11 := rfl
  have fx : Jvm.FP.Core.Fmt.exps Jvm.FP.Core.b64 - 1 = 2047 := by decide
  rw [ft, fe, fx] at h
  have hx : x.toNat % 2 ^ 63 / 2 ^ 52 = x.toNat / 2 ^ 52 % 2 ^ 11 := by omega
  have hy : x.toNat % 2 ^ 63 % 2 ^ 52 = x.toNat % 2 ^ 52 := by omega
  refine fp_low ?_ (by rw [hx]; exact Nat.mod_lt _ (by decide))
  rw [hx, hy]
  by_cases c : x.toNat / 2 ^ 52 % 2 ^ 11 = 2047
  · rw [if_pos c] at h
    by_cases c2 : x.toNat % 2 ^ 52 = 0
    · exact Or.inr c2
    · rw [if_neg c2] at h; exact absurd rfl h
  · exact Or.inl c
theorem fp_lowf {a : Nat} (h : a / 2 ^ 23 ≠ 255 ∨ a % 2 ^ 23 = 0) (hb : a / 2 ^ 23 < 256) : a ≤ 255 * 2 ^ 23 := by
  have e := Nat.div_add_mod a (2 ^ 23)
  have l := Nat.mod_lt a (Nat.two_pow_pos 23)
  omega
theorem fp_num32 {x : UInt32} (h : Jvm.FP.Core.val32 x ≠ .nan) : x &&& 0x7fffffff ≤ 0x7f800000 := by
  rw [UInt32.le_iff_toNat_le, UInt32.toNat_and]
  have e1 : (0x7fffffff : UInt32).toNat = 2 ^ 31 - 1 := by decide
  have e2 : (0x7f800000 : UInt32).toNat = 255 * 2 ^ 23 := by decide
  rw [e1, e2, Nat.and_two_pow_sub_one_eq_mod]
  unfold Jvm.FP.Core.val32 Jvm.FP.Core.decode at h
  have ft : Jvm.FP.Core.fieldT Jvm.FP.Core.b32 x.toNat = x.toNat % 2 ^ 23 := rfl
  have fe : Jvm.FP.Core.fieldE Jvm.FP.Core.b32 x.toNat = x.toNat / 2 ^ 23 % 2 ^ 8 := rfl
  have fx : Jvm.FP.Core.Fmt.exps Jvm.FP.Core.b32 - 1 = 255 := by decide
  rw [ft, fe, fx] at h
  have hx : x.toNat % 2 ^ 31 / 2 ^ 23 = x.toNat / 2 ^ 23 % 2 ^ 8 := by omega
  have hy : x.toNat % 2 ^ 31 % 2 ^ 23 = x.toNat % 2 ^ 23 := by omega
  refine fp_lowf ?_ (by rw [hx]; exact Nat.mod_lt _ (by decide))
  rw [hx, hy]
  by_cases c : x.toNat / 2 ^ 23 % 2 ^ 8 = 255
  · rw [if_pos c] at h
    by_cases c2 : x.toNat % 2 ^ 23 = 0
    · exact Or.inr c2
    · rw [if_neg c2] at h; exact absurd rfl h
  · exact Or.inl c
/-- a whole number by a count -/
theorem fp_ddiv (x : Int32) {n : Nat} (hn : n < 62) (h0 : n ≠ 0) : FP.ddiv (FP.i2d x) (FP.i2d (Int32.ofNat n)) &&& 0x7fffffffffffffff ≤ 0x7ff0000000000000 := by
  obtain ⟨t, c, r, e, hc⟩ := fp_fin (fp_n64 n hn h0)
  refine fp_num64 ?_
  rw [show FP.ddiv (FP.i2d x) (FP.i2d (Int32.ofNat n)) = Jvm.FP.Core.ddiv (FP.i2d x) (FP.i2d (Int32.ofNat n)) from rfl, Jvm.FP.Core.val64_ddiv, e]
  exact fp_quot (fp_i2d x) hc
theorem fp_fdiv (x : Int32) {n : Nat} (hn : n < 62) (h0 : n ≠ 0) : FP.fdiv (FP.i2f x) (FP.i2f (Int32.ofNat n)) &&& 0x7fffffff ≤ 0x7f800000 := by
  obtain ⟨t, c, r, e, hc⟩ := fp_fin (fp_n32 n hn h0)
  refine fp_num32 ?_
  rw [show FP.fdiv (FP.i2f x) (FP.i2f (Int32.ofNat n)) = Jvm.FP.Core.fdiv (FP.i2f x) (FP.i2f (Int32.ofNat n)) from rfl, Jvm.FP.Core.val32_fdiv, e]
  exact fp_quot (fp_i2f x) hc
