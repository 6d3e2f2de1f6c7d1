/-! sets of items as bits of longs -/
def lb (x : Int64) (i : Nat) : Bool := x.toBitVec.getLsbD i
theorem lb_ext {x y : Int64} (h : ∀ i, i < 64 → lb x i = lb y i) : x = y := Int64.toBitVec_inj.mp (BitVec.eq_of_getLsbD_eq (fun i hi => h i hi))
theorem lb_or (x y : Int64) (i : Nat) : lb (x ||| y) i = (lb x i || lb y i) := by unfold lb; rw [Int64.toBitVec_or, BitVec.getLsbD_or]
theorem lb_and (x y : Int64) (i : Nat) : lb (x &&& y) i = (lb x i && lb y i) := by unfold lb; rw [Int64.toBitVec_and, BitVec.getLsbD_and]
theorem lb_xor (x y : Int64) (i : Nat) : lb (x ^^^ y) i = (lb x i ^^ lb y i) := by unfold lb; rw [Int64.toBitVec_xor, BitVec.getLsbD_xor]
theorem lb_0 (i : Nat) : lb 0 i = false := by unfold lb; exact BitVec.getLsbD_zero
theorem lb_1 (i : Nat) : lb 1 i = decide (i = 0) := by
  unfold lb
  show (1#64).getLsbD i = _
  rw [BitVec.getLsbD_one]
  simp
theorem lb_m1 : ∀ i, i < 64 → lb (-1) i = true := by decide +kernel
theorem lb_not (x : Int64) {i : Nat} (hi : i < 64) : lb (x ^^^ (-1 : Int64)) i = !lb x i := by rw [lb_xor, lb_m1 i hi]; cases lb x i <;> rfl
theorem lb_c : ∀ k, k < 64 → ((nI k).toInt64 &&& 63).toBitVec.smod 64 = BitVec.ofNat 64 k := by decide +kernel
theorem lb_cu : ∀ k, k < 64 → ((nI k).toInt64.toUInt64 &&& Int64.toUInt64 63) = UInt64.ofNat k := by decide +kernel
/-- one bit -/
def bitL (i : Nat) : Int64 := (1 : Int64) <<< ((nI i).toInt64 &&& 63)
theorem lb_bitL {i j : Nat} (hi : i < 64) (hj : j < 64) : lb (bitL i) j = decide (j = i) := by
  unfold lb bitL
  rw [Int64.toBitVec_shiftLeft, lb_c i hi]
  show ((1#64) <<< (BitVec.ofNat 64 i).toNat).getLsbD j = _
  rw [BitVec.toNat_ofNat, Nat.mod_eq_of_lt (by omega), BitVec.getLsbD_shiftLeft, BitVec.getLsbD_one]
  by_cases c : j = i
  · subst c; simp [hj]
  · rcases Nat.lt_or_ge j i with h | h
    · simp [h, c]
    · have : ¬ j - i = 0 := by omega
      simp [hj, c, this]
theorem lb_ushr (x : Int64) {k : Nat} (hk : k < 64) : (x.toUInt64 >>> ((nI k).toInt64.toUInt64 &&& Int64.toUInt64 63)).toInt64.toBitVec = x.toBitVec >>> k := by
  rw [lb_cu k hk]
  apply BitVec.eq_of_toNat_eq
  show (x.toUInt64 >>> UInt64.ofNat k).toNat = _
  have h1 : (UInt64.ofNat k).toNat = k := by
    show (BitVec.ofNat 64 k).toNat = k
    rw [BitVec.toNat_ofNat, Nat.mod_eq_of_lt (by omega)]
  rw [UInt64.toNat_shiftRight, h1, Nat.mod_eq_of_lt hk, BitVec.toNat_ushiftRight]
  rfl
theorem lg_cmp0 (x y : Int64) : lg_cmp x y = 0 ↔ x = y := by
  unfold lg_cmp
  by_cases h : x > y
  · rw [if_pos h]
    constructor
    · intro z; exact absurd z (by decide)
    · intro z; subst z; exact absurd h Int64.lt_irrefl
  · rw [if_neg h]
    by_cases h2 : x = y
    · rw [if_pos h2]; exact ⟨fun _ => h2, fun _ => rfl⟩
    · rw [if_neg h2]
      constructor
      · intro z; exact absurd z (by decide)
      · intro z; exact absurd z h2
theorem lb_and1 (x : Int64) : (x &&& 1) = (if lb x 0 then 1 else 0) := by
  apply lb_ext
  intro i _
  rw [lb_and, lb_1]
  by_cases c : i = 0
  · subst c
    cases lb x 0
    · simp [lb_0]
    · simp [lb_1]
  · cases e : lb x 0
    · simp [c, lb_0]
    · simp [c, lb_1]
theorem contains_eq (S : pS) (x : Int64) {i : Nat} (hi : i < 64) : F_X9_contains S x (nI i) = some (if lb x i then (1 : Int32) else 0) := by
  unfold F_X9_contains
  have e : lb ((x.toUInt64 >>> ((nI i).toInt64.toUInt64 &&& Int64.toUInt64 63)).toInt64) 0 = lb x i := by
    unfold lb
    rw [lb_ushr x hi, BitVec.getLsbD_ushiftRight, Nat.add_zero]
  rw [lb_and1, e]
  cases lb x i
  · simp only [Bool.false_eq_true, if_false]; rw [if_pos ((lg_cmp0 _ _).mpr rfl)]
  · simp only [if_true]; rw [if_neg (fun z => absurd ((lg_cmp0 _ _).mp z) (by decide))]
def withL (x : Int64) (i : Nat) (b : Bool) : Int64 := if b then x ||| bitL i else x &&& (bitL i ^^^ (-1 : Int64))
theorem lb_withL (x : Int64) {i j : Nat} (b : Bool) (hi : i < 64) (hj : j < 64) : lb (withL x i b) j = if j = i then b else lb x j := by
  unfold withL
  cases b
  · rw [if_neg (by decide), lb_and, lb_not _ hj, lb_bitL hi hj]
    by_cases c : j = i <;> simp [c]
  · rw [if_pos rfl, lb_or, lb_bitL hi hj]
    by_cases c : j = i <;> simp [c]
theorem with_1 (S : pS) (x : Int64) (i : Nat) : F_X9_with S x (nI i) (1 : Int32) = some (withL x i true) := by
  unfold F_X9_with withL bitL
  rw [if_neg (by decide), if_pos rfl]
theorem with_0 (S : pS) (x : Int64) (i : Nat) : F_X9_with S x (nI i) (0 : Int32) = some (withL x i false) := by
  unfold F_X9_with withL bitL
  rw [if_pos rfl, if_neg (by decide)]
theorem with_b (S : pS) (x : Int64) (i : Nat) (b : Int32) : F_X9_with S x (nI i) b = some (withL x i (decide (b ≠ 0))) := by
  unfold F_X9_with withL bitL
  by_cases c : b = 0
  · rw [if_pos c, c]; rfl
  · rw [if_neg c]; simp [c]
theorem sshr_and1 (x : Int64) {i : Nat} (hi : i < 64) : ((x >>> ((nI i).toInt64 &&& 63)) &&& (1 : Int64)) = (if lb x i then 1 else 0) := by
  have e : lb (x >>> ((nI i).toInt64 &&& 63)) 0 = lb x i := by
    unfold lb
    rw [Int64.toBitVec_shiftRight]
    show (x.toBitVec.sshiftRight ((((nI i).toInt64 &&& 63).toBitVec.smod 64)).toNat).getLsbD 0 = _
    rw [lb_c i hi, BitVec.toNat_ofNat, Nat.mod_eq_of_lt (by omega), BitVec.getLsbD_sshiftRight]
    simp [hi]
  rw [lb_and1, e]
/-! numbers of ints -/
theorem nI_lit (n : Nat) : nI n = Int32.ofNat n := rfl
theorem nI_clamp0 {n : Nat} (h : n < 2 ^ 31) : ¬ nI n < 0 := nI_pos h
theorem nI_split (x : Int32) : x < 0 ∨ ∃ j : Nat, j < 2 ^ 31 ∧ x = nI j := by
  by_cases h : x < 0
  · exact Or.inl h
  · exact Or.inr (nI_of h)
theorem fa9_lt {a b : Int32} (h : a < 0) (h2 : b ≤ a) : b < 0 := by
  rw [Int32.lt_iff_toInt_lt] at h ⊢
  rw [Int32.le_iff_toInt_le] at h2
  omega
theorem ite0 {α : Type} {x y : α} {b : Bool} (h : b = false) : (if (if b = true then (1 : Int32) else 0) = 0 then x else y) = x := by subst h; rfl
theorem ite1 {α : Type} {x y : α} {b : Bool} (h : b = true) : (if (if b = true then (1 : Int32) else 0) = 0 then x else y) = y := by subst h; rfl
theorem ite2 {α : Type} {x y : α} {b : Bool} (h : b = false) : (if ¬ (if b = true then (1 : Int32) else 0) = 1 then x else y) = x := by subst h; rfl
theorem ite3 {α : Type} {x y : α} {b : Bool} (h : b = true) : (if ¬ (if b = true then (1 : Int32) else 0) = 1 then x else y) = y := by subst h; rfl
theorem ite4 {α : Type} {x y : α} {b : Bool} (h : b = false) : (if ¬ (if b = true then (1 : Int32) else 0) = 0 then x else y) = y := by subst h; rfl
theorem ite5 {α : Type} {x y : α} {b : Bool} (h : b = true) : (if ¬ (if b = true then (1 : Int32) else 0) = 0 then x else y) = x := by subst h; rfl
theorem itp0 {α : Type} {x y : α} {c : Prop} [Decidable c] (h : ¬ c) : (if (if c then (1 : Int32) else 0) = 0 then x else y) = x := by rw [if_neg h]; rfl
theorem itp1 {α : Type} {x y : α} {c : Prop} [Decidable c] (h : c) : (if (if c then (1 : Int32) else 0) = 0 then x else y) = y := by rw [if_pos h]; rfl
theorem itp4 {α : Type} {x y : α} {c : Prop} [Decidable c] (h : ¬ c) : (if ¬ (if c then (1 : Int32) else 0) = 0 then x else y) = y := by rw [if_neg h]; rfl
theorem itp5 {α : Type} {x y : α} {c : Prop} [Decidable c] (h : c) : (if ¬ (if c then (1 : Int32) else 0) = 0 then x else y) = x := by rw [if_pos h]; rfl
theorem ge1709 {i : Nat} (h : i < 1709) : ¬ (1709 : Int32) ≤ nI i := nI_ge h (by decide)
theorem le1709 : (1709 : Int32) ≤ nI 1709 := by decide
theorem ge11963 {i : Nat} (h : i < 11963) : ¬ (11963 : Int32) ≤ nI i := nI_ge h (by decide)
theorem le11963 : (11963 : Int32) ≤ nI 11963 := by decide
theorem ge12 {i : Nat} (h : i < 12) : ¬ (12 : Int32) ≤ nI i := nI_ge h (by decide)
theorem le12 : (12 : Int32) ≤ nI 12 := by decide
theorem ge5 {i : Nat} (h : i < 5) : ¬ (5 : Int32) ≤ nI i := nI_ge h (by decide)
theorem le5 : (5 : Int32) ≤ nI 5 := by decide
theorem ge40 {i : Nat} (h : i < 40) : ¬ (40 : Int32) ≤ nI i := nI_ge h (by decide)
theorem le40 : (40 : Int32) ≤ nI 40 := by decide
theorem ge10 {i : Nat} (h : i < 10) : ¬ (10 : Int32) ≤ nI i := nI_ge h (by decide)
theorem le10 : (10 : Int32) ≤ nI 10 := by decide
theorem ge4 {i : Nat} (h : i < 4) : ¬ (4 : Int32) ≤ nI i := nI_ge h (by decide)
theorem le4 : (4 : Int32) ≤ nI 4 := by decide
theorem ge300 {i : Nat} (h : i < 300) : ¬ (300 : Int32) ≤ nI i := nI_ge h (by decide)
theorem le300 : (300 : Int32) ≤ nI 300 := by decide
theorem ge301 {i : Nat} (h : i < 301) : ¬ (301 : Int32) ≤ nI i := nI_ge h (by decide)
theorem le301 : (301 : Int32) ≤ nI 301 := by decide
theorem nI_1l (i : Nat) : (1 : Int32) + nI i = nI (1 + i) := by rw [li_1, nI_add]
theorem nI_n0 {n : Nat} (h : ¬ n = 0) (hn : n < 2 ^ 31) : ¬ nI n = 0 := fun z => h ((nI_eq hn (by decide)).mp (show nI n = nI 0 from z))
