/-! how many bits: the long's bitCount -/
def uN (x : Int64) : Nat := x.toBitVec.toNat
theorem uN_lt (x : Int64) : uN x < 2 ^ 64 := x.toBitVec.isLt
theorem uN_and (x y : Int64) : uN (x &&& y) = uN x &&& uN y := by unfold uN; rw [Int64.toBitVec_and, BitVec.toNat_and]
theorem uN_add (x y : Int64) : uN (x + y) = (uN x + uN y) % 2 ^ 64 := by unfold uN; rw [Int64.toBitVec_add, BitVec.toNat_add]
theorem uN_sub {x y : Int64} (h : uN y ≤ uN x) : uN (x - y) = uN x - uN y := by unfold uN; rw [Int64.toBitVec_sub, BitVec.toNat_sub_of_le h]
theorem uN_shr (x : Int64) {k : Nat} (hk : k < 64) : uN (x.toUInt64 >>> ((nI k).toInt64.toUInt64 &&& Int64.toUInt64 63)).toInt64 = uN x / 2 ^ k := by
  unfold uN
  rw [lb_ushr x hk, BitVec.toNat_ushiftRight, Nat.shiftRight_eq_div_pow]
theorem uN_lN (x : Int64) : lN (uN x) = x := by
  apply Int64.toBitVec_inj.mp
  show BitVec.ofNat 64 x.toBitVec.toNat = x.toBitVec
  rw [BitVec.ofNat_toNat, BitVec.setWidth_eq]
theorem uN_low (x : Int64) : (x.toInt32 &&& (127 : Int32)) = nI (uN x % 128) := by
  rw [← uN_lN x, lN_i, pk_and _ 7 (by decide)]
  have e : (nI (uN x)).toBitVec.toNat = uN x % 2 ^ 32 := BitVec.toNat_ofNat _ _
  rw [e, uN_lN]
  congr 1
  omega
theorem and_split (a m p q : Nat) (ha : a < 256) (hp : p < 256) : (256 * m + a) &&& (256 * q + p) = 256 * (m &&& q) + (a &&& p) := by
  apply Nat.eq_of_testBit_eq
  intro i
  have h1 : a &&& p < 2 ^ 8 := Nat.and_lt_two_pow _ hp
  rw [Nat.testBit_and, show 256 = 2 ^ 8 from rfl, Nat.testBit_two_pow_mul_add _ ha, Nat.testBit_two_pow_mul_add _ hp, Nat.testBit_two_pow_mul_add _ h1]
  by_cases c : i < 8
  · rw [if_pos c, if_pos c, if_pos c, Nat.testBit_and]
  · rw [if_neg c, if_neg c, if_neg c, Nat.testBit_and]
/-- eight bytes -/
def by8 (b : Nat → Nat) : Nat := 256 * (256 * (256 * (256 * (256 * (256 * (256 * b 7 + b 6) + b 5) + b 4) + b 3) + b 2) + b 1) + b 0
theorem by8_and (b c : Nat → Nat) (hb : ∀ k, k < 8 → b k < 256) (hc : ∀ k, k < 8 → c k < 256) : by8 b &&& by8 c = by8 (fun k => b k &&& c k) := by
  unfold by8
  rw [and_split _ _ _ _ (hb 0 (by omega)) (hc 0 (by omega)), and_split _ _ _ _ (hb 1 (by omega)) (hc 1 (by omega)), and_split _ _ _ _ (hb 2 (by omega)) (hc 2 (by omega)), and_split _ _ _ _ (hb 3 (by omega)) (hc 3 (by omega)), and_split _ _ _ _ (hb 4 (by omega)) (hc 4 (by omega)), and_split _ _ _ _ (hb 5 (by omega)) (hc 5 (by omega)), and_split _ _ _ _ (hb 6 (by omega)) (hc 6 (by omega))]
def byt (n k : Nat) : Nat := n / 256 ^ k % 256
theorem by8_of {n : Nat} (h : n < 2 ^ 64) : by8 (byt n) = n := by
  unfold by8 byt
  simp only [Nat.reducePow]
  omega
theorem by8_half (b : Nat → Nat) (hb : ∀ k, k < 8 → b k < 256) : by8 b / 2 = by8 (fun k => b k / 2 + 128 * (if k < 7 then b (k + 1) % 2 else 0)) := by
  unfold by8
  simp only [Nat.reduceLT, if_true, Nat.reduceAdd, if_false]
  have := hb 0; have := hb 1; have := hb 2; have := hb 3; have := hb 4; have := hb 5; have := hb 6; have := hb 7
  omega
theorem by8_quarter (b : Nat → Nat) (hb : ∀ k, k < 8 → b k < 256) : by8 b / 4 = by8 (fun k => b k / 4 + 64 * (if k < 7 then b (k + 1) % 4 else 0)) := by
  unfold by8
  simp only [Nat.reduceLT, if_true, Nat.reduceAdd, if_false]
  have := hb 0; have := hb 1; have := hb 2; have := hb 3; have := hb 4; have := hb 5; have := hb 6; have := hb 7
  omega
theorem by8_16 (b : Nat → Nat) (hb : ∀ k, k < 8 → b k < 256) : by8 b / 16 = by8 (fun k => b k / 16 + 16 * (if k < 7 then b (k + 1) % 16 else 0)) := by
  unfold by8
  simp only [Nat.reduceLT, if_true, Nat.reduceAdd, if_false]
  have := hb 0; have := hb 1; have := hb 2; have := hb 3; have := hb 4; have := hb 5; have := hb 6; have := hb 7
  omega
def uB (b : Nat) : Nat := b - (b / 2 &&& 85)
def wB (u : Nat) : Nat := (u &&& 51) + (u / 4 &&& 51)
def pB (b : Nat) : Nat := ((List.range 8).filter fun j => b.testBit j).length
theorem tab1 : ∀ b, b < 256 → ∀ c, c < 2 → ((b / 2 + 128 * c) &&& 85) = (b / 2 &&& 85) ∧ (b / 2 &&& 85) ≤ b ∧ uB b < 256 := by decide +kernel
theorem tab2 : ∀ b, b < 256 → ∀ c, c < 4 → ((b / 4 + 64 * c) &&& 51) = (b / 4 &&& 51) := by decide +kernel
theorem tab3 : ∀ b, b < 256 → wB (uB b) ≤ 68 ∧ wB (uB b) % 16 ≤ 4 ∧ pB b ≤ 8 := by decide +kernel
theorem tab4 : ∀ b, b < 256 → ∀ c, c < 5 → ((wB (uB b) + wB (uB b) / 16 + 16 * c) &&& 15) = pB b := by decide +kernel
theorem by8_cg {b c : Nat → Nat} (h : ∀ k, k < 8 → b k = c k) : by8 b = by8 c := by
  unfold by8
  rw [h 0 (by omega), h 1 (by omega), h 2 (by omega), h 3 (by omega), h 4 (by omega), h 5 (by omega), h 6 (by omega), h 7 (by omega)]
theorem pop_1 {n : Nat} (h : n < 2 ^ 64) : n / 2 &&& 6148914691236517205 ≤ n ∧ n - (n / 2 &&& 6148914691236517205) = by8 (fun k => uB (byt n k)) := by
  have hb : ∀ k, k < 8 → byt n k < 256 := fun k _ => Nat.mod_lt _ (by decide)
  have e : n / 2 &&& 6148914691236517205 = by8 (fun k => byt n k / 2 &&& 85) := by
    have e1 : 6148914691236517205 = by8 (fun _ => 85) := by decide
    have e2 : n / 2 = by8 (fun k => byt n k / 2 + 128 * (if k < 7 then byt n (k + 1) % 2 else 0)) := by
      rw [← by8_half _ hb, by8_of h]
    rw [e1, e2, by8_and _ _ (fun k hk => by have := hb k hk; split <;> omega) (fun _ _ => by decide)]
    refine by8_cg (fun k hk => ?_)
    exact (tab1 _ (hb k hk) _ (by split <;> omega)).1
  have hle : ∀ k, k < 8 → (byt n k / 2 &&& 85) ≤ byt n k := fun k hk => (tab1 _ (hb k hk) 0 (by decide)).2.1
  rw [e]
  have e0 := by8_of h
  have := hle 0 (by omega); have := hle 1 (by omega); have := hle 2 (by omega); have := hle 3 (by omega); have := hle 4 (by omega); have := hle 5 (by omega); have := hle 6 (by omega); have := hle 7 (by omega)
  unfold by8 uB at *
  dsimp only at *
  omega
theorem pop_2 {n : Nat} (h : n < 2 ^ 64) : (by8 (fun k => uB (byt n k)) &&& 3689348814741910323) + (by8 (fun k => uB (byt n k)) / 4 &&& 3689348814741910323) = by8 (fun k => wB (uB (byt n k))) := by
  have hb : ∀ k, k < 8 → byt n k < 256 := fun k _ => Nat.mod_lt _ (by decide)
  have hu : ∀ k, k < 8 → uB (byt n k) < 256 := fun k hk => (tab1 _ (hb k hk) 0 (by decide)).2.2
  have e1 : 3689348814741910323 = by8 (fun _ => 51) := by decide
  rw [by8_quarter _ hu, e1, by8_and _ _ hu (fun _ _ => by decide), by8_and _ _ (fun k hk => by have := hu k hk; split <;> omega) (fun _ _ => by decide)]
  have e2 : by8 (fun k => (uB (byt n k) / 4 + 64 * (if k < 7 then uB (byt n (k + 1)) % 4 else 0)) &&& 51) = by8 (fun k => uB (byt n k) / 4 &&& 51) := by8_cg (fun k hk => tab2 _ (hu k hk) _ (by split <;> omega))
  rw [e2]
  unfold by8 wB
  dsimp only
  omega
theorem pop_3 {n : Nat} (h : n < 2 ^ 64) : (by8 (fun k => wB (uB (byt n k))) + by8 (fun k => wB (uB (byt n k))) / 16) &&& 1085102592571150095 = by8 (fun k => pB (byt n k)) := by
  have hb : ∀ k, k < 8 → byt n k < 256 := fun k _ => Nat.mod_lt _ (by decide)
  have ht : ∀ k, k < 8 → wB (uB (byt n k)) ≤ 68 ∧ wB (uB (byt n k)) % 16 ≤ 4 := fun k hk => ⟨(tab3 _ (hb k hk)).1, (tab3 _ (hb k hk)).2.1⟩
  have e1 : 1085102592571150095 = by8 (fun _ => 15) := by decide
  rw [by8_16 _ (fun k hk => by have := (ht k hk).1; omega), e1]
  have e2 : by8 (fun k => wB (uB (byt n k))) + by8 (fun k => wB (uB (byt n k)) / 16 + 16 * (if k < 7 then wB (uB (byt n (k + 1))) % 16 else 0)) = by8 (fun k => wB (uB (byt n k)) + wB (uB (byt n k)) / 16 + 16 * (if k < 7 then wB (uB (byt n (k + 1))) % 16 else 0)) := by
    unfold by8
    dsimp only
    omega
  rw [e2, by8_and _ _ (fun k hk => by
    have h1 := ht k hk
    by_cases c : k < 7
    · have h2 := ht (k + 1) (by omega)
      rw [if_pos c]; omega
    · rw [if_neg c]; omega) (fun _ _ => by decide)]
  refine by8_cg (fun k hk => tab4 _ (hb k hk) _ ?_)
  by_cases c : k < 7
  · have h2 := ht (k + 1) (by omega)
    rw [if_pos c]; omega
  · rw [if_neg c]; decide
theorem pop_4a (p0 p1 p2 p3 p4 p5 p6 p7 : Nat) (h0 : p0 ≤ 8) (h1 : p1 ≤ 8) (h2 : p2 ≤ 8) (h3 : p3 ≤ 8) (h4 : p4 ≤ 8) (h5 : p5 ≤ 8) (h6 : p6 ≤ 8) (h7 : p7 ≤ 8) :
    (256 * (256 * (256 * (256 * (256 * (256 * (256 * p7 + p6) + p5) + p4) + p3) + p2) + p1) + p0) + (256 * (256 * (256 * (256 * (256 * (256 * (256 * p7 + p6) + p5) + p4) + p3) + p2) + p1) + p0) / 256 = 256 * (256 * (256 * (256 * (256 * (256 * (256 * p7 + (p6 + p7)) + (p5 + p6)) + (p4 + p5)) + (p3 + p4)) + (p2 + p3)) + (p1 + p2)) + (p0 + p1) := by omega
theorem pop_4b (p0 p1 p2 p3 p4 p5 p6 p7 : Nat) (h0 : p0 ≤ 16) (h1 : p1 ≤ 16) (h2 : p2 ≤ 16) (h3 : p3 ≤ 16) (h4 : p4 ≤ 16) (h5 : p5 ≤ 16) (h6 : p6 ≤ 16) (h7 : p7 ≤ 16) :
    (256 * (256 * (256 * (256 * (256 * (256 * (256 * p7 + p6) + p5) + p4) + p3) + p2) + p1) + p0) + (256 * (256 * (256 * (256 * (256 * (256 * (256 * p7 + p6) + p5) + p4) + p3) + p2) + p1) + p0) / 65536 = 256 * (256 * (256 * (256 * (256 * (256 * (256 * p7 + p6) + (p5 + p7)) + (p4 + p6)) + (p3 + p5)) + (p2 + p4)) + (p1 + p3)) + (p0 + p2) := by omega
theorem pop_4c (p0 p1 p2 p3 p4 p5 p6 p7 : Nat) (h0 : p0 ≤ 32) (h1 : p1 ≤ 32) (h2 : p2 ≤ 32) (h3 : p3 ≤ 32) (h4 : p4 ≤ 32) (h5 : p5 ≤ 32) (h6 : p6 ≤ 32) (h7 : p7 ≤ 32) :
    (256 * (256 * (256 * (256 * (256 * (256 * (256 * p7 + p6) + p5) + p4) + p3) + p2) + p1) + p0) + (256 * (256 * (256 * (256 * (256 * (256 * (256 * p7 + p6) + p5) + p4) + p3) + p2) + p1) + p0) / 4294967296 = 256 * (256 * (256 * (256 * (256 * (256 * (256 * p7 + p6) + p5) + p4) + (p3 + p7)) + (p2 + p6)) + (p1 + p5)) + (p0 + p4) := by omega
theorem pop_4 {p : Nat → Nat} (hp : ∀ k, k < 8 → p k ≤ 8) : ∃ v4 v5 v6 : Nat, v4 = by8 p + by8 p / 256 ∧ v5 = v4 + v4 / 65536 ∧ v6 = v5 + v5 / 4294967296 ∧ v4 < 2 ^ 64 ∧ v5 < 2 ^ 64 ∧ v6 < 2 ^ 64 ∧ v6 % 128 = p 0 + p 1 + p 2 + p 3 + p 4 + p 5 + p 6 + p 7 := by
  refine ⟨_, _, _, rfl, rfl, rfl, ?_⟩
  have h0 := hp 0 (by omega); have h1 := hp 1 (by omega); have h2 := hp 2 (by omega); have h3 := hp 3 (by omega); have h4 := hp 4 (by omega); have h5 := hp 5 (by omega); have h6 := hp 6 (by omega); have h7 := hp 7 (by omega)
  unfold by8
  rw [pop_4a _ _ _ _ _ _ _ _ h0 h1 h2 h3 h4 h5 h6 h7, pop_4b _ _ _ _ _ _ _ _ (by omega) (by omega) (by omega) (by omega) (by omega) (by omega) (by omega) (by omega), pop_4c _ _ _ _ _ _ _ _ (by omega) (by omega) (by omega) (by omega) (by omega) (by omega) (by omega) (by omega)]
  refine ⟨?_, ?_, ?_, ?_⟩ <;> omega
theorem filt_add (P : Nat → Bool) (m n : Nat) : ((List.range (m + n)).filter P).length = ((List.range m).filter P).length + ((List.range n).filter fun j => P (m + j)).length := by
  induction n with
  | zero => simp
  | succ n ih =>
    rw [← Nat.add_assoc, List.range_succ, List.filter_append, List.length_append, ih, List.range_succ, List.filter_append, List.length_append]
    by_cases c : P (m + n) = true
    · simp [c, Nat.add_assoc]
    · simp [c, Nat.add_assoc]
theorem byt_bit {n : Nat} (k j : Nat) (hj : j < 8) : (byt n k).testBit j = n.testBit (8 * k + j) := by
  unfold byt
  rw [show 256 = 2 ^ 8 from rfl, Nat.testBit_mod_two_pow, ← Nat.pow_mul, Nat.testBit_div_two_pow]
  simp [hj, Nat.add_comm]
theorem pB_cnt (n k : Nat) : pB (byt n k) = ((List.range 8).filter fun j => n.testBit (8 * k + j)).length := by
  unfold pB
  congr 1
  refine List.filter_congr (fun j hj => byt_bit k j (List.mem_range.mp hj))
/-- how many items -/
def cntB (F : Nat → Bool) : Nat := ((List.range 61).filter F).length
theorem bitCount_eq (S : pS) (x : Int64) (h : ∀ i, 61 ≤ i → i < 64 → lb x i = false) : F_J13_bitCount_95d88 S x = some (nI (cntB (lb x))) := by
  have hn := uN_lt x
  obtain ⟨v4, v5, v6, q4, q5, q6, l4, l5, l6, q⟩ := pop_4 (p := fun k => pB (byt (uN x) k)) (fun k _ => (tab3 _ (Nat.mod_lt _ (by decide))).2.2)
  have s1 : ∀ y : Int64, uN (y.toUInt64 >>> ((1 : Int32).toInt64.toUInt64 &&& Int64.toUInt64 63)).toInt64 = uN y / 2 := fun y => uN_shr y (k := 1) (by decide)
  have s2 : ∀ y : Int64, uN (y.toUInt64 >>> ((2 : Int32).toInt64.toUInt64 &&& Int64.toUInt64 63)).toInt64 = uN y / 4 := fun y => uN_shr y (k := 2) (by decide)
  have s4 : ∀ y : Int64, uN (y.toUInt64 >>> ((4 : Int32).toInt64.toUInt64 &&& Int64.toUInt64 63)).toInt64 = uN y / 16 := fun y => uN_shr y (k := 4) (by decide)
  have s8 : ∀ y : Int64, uN (y.toUInt64 >>> ((8 : Int32).toInt64.toUInt64 &&& Int64.toUInt64 63)).toInt64 = uN y / 256 := fun y => uN_shr y (k := 8) (by decide)
  have s16 : ∀ y : Int64, uN (y.toUInt64 >>> ((16 : Int32).toInt64.toUInt64 &&& Int64.toUInt64 63)).toInt64 = uN y / 65536 := fun y => uN_shr y (k := 16) (by decide)
  have s32 : ∀ y : Int64, uN (y.toUInt64 >>> ((32 : Int32).toInt64.toUInt64 &&& Int64.toUInt64 63)).toInt64 = uN y / 4294967296 := fun y => uN_shr y (k := 32) (by decide)
  have m1 : uN 6148914691236517205 = 6148914691236517205 := by decide
  have m2 : uN 3689348814741910323 = 3689348814741910323 := by decide
  have m4 : uN 1085102592571150095 = 1085102592571150095 := by decide
  obtain ⟨p1, p2⟩ := pop_1 hn
  unfold F_J13_bitCount_95d88
  have u1 : uN (x - ((x.toUInt64 >>> ((1 : Int32).toInt64.toUInt64 &&& Int64.toUInt64 63)).toInt64 &&& 6148914691236517205)) = by8 (fun k => uB (byt (uN x) k)) := by
    rw [uN_sub (by rw [uN_and, s1, m1]; exact p1), uN_and, s1, m1, p2]
  generalize x - ((x.toUInt64 >>> ((1 : Int32).toInt64.toUInt64 &&& Int64.toUInt64 63)).toInt64 &&& 6148914691236517205) = y1 at *
  have w68 : by8 (fun k => wB (uB (byt (uN x) k))) < 2 ^ 63 := by
    have ht : ∀ k, wB (uB (byt (uN x) k)) ≤ 68 := fun k => (tab3 _ (Nat.mod_lt _ (by decide))).1
    have := ht 0; have := ht 1; have := ht 2; have := ht 3; have := ht 4; have := ht 5; have := ht 6; have := ht 7
    unfold by8
    dsimp only
    omega
  have u2 : uN ((y1 &&& 3689348814741910323) + ((y1.toUInt64 >>> ((2 : Int32).toInt64.toUInt64 &&& Int64.toUInt64 63)).toInt64 &&& 3689348814741910323)) = by8 (fun k => wB (uB (byt (uN x) k))) := by
    rw [uN_add, uN_and, uN_and, s2, m2, u1, pop_2 hn, Nat.mod_eq_of_lt (by omega)]
  generalize (y1 &&& 3689348814741910323) + ((y1.toUInt64 >>> ((2 : Int32).toInt64.toUInt64 &&& Int64.toUInt64 63)).toInt64 &&& 3689348814741910323) = y2 at *
  have u3 : uN ((y2 + (y2.toUInt64 >>> ((4 : Int32).toInt64.toUInt64 &&& Int64.toUInt64 63)).toInt64) &&& 1085102592571150095) = by8 (fun k => pB (byt (uN x) k)) := by
    rw [uN_and, uN_add, s4, m4, u2, Nat.mod_eq_of_lt (by omega), pop_3 hn]
  generalize (y2 + (y2.toUInt64 >>> ((4 : Int32).toInt64.toUInt64 &&& Int64.toUInt64 63)).toInt64) &&& 1085102592571150095 = y3 at *
  have u4 : uN (y3 + (y3.toUInt64 >>> ((8 : Int32).toInt64.toUInt64 &&& Int64.toUInt64 63)).toInt64) = v4 := by
    rw [uN_add, s8, u3, ← q4, Nat.mod_eq_of_lt l4]
  generalize y3 + (y3.toUInt64 >>> ((8 : Int32).toInt64.toUInt64 &&& Int64.toUInt64 63)).toInt64 = y4 at *
  have u5 : uN (y4 + (y4.toUInt64 >>> ((16 : Int32).toInt64.toUInt64 &&& Int64.toUInt64 63)).toInt64) = v5 := by
    rw [uN_add, s16, u4, ← q5, Nat.mod_eq_of_lt l5]
  generalize y4 + (y4.toUInt64 >>> ((16 : Int32).toInt64.toUInt64 &&& Int64.toUInt64 63)).toInt64 = y5 at *
  have u6 : uN (y5 + (y5.toUInt64 >>> ((32 : Int32).toInt64.toUInt64 &&& Int64.toUInt64 63)).toInt64) = v6 := by
    rw [uN_add, s32, u5, ← q6, Nat.mod_eq_of_lt l6]
  rw [uN_low, u6, q]
  congr 2
  have e : cntB (lb x) = ((List.range 64).filter (uN x).testBit).length := by
    have e1 : (List.range 64).filter (uN x).testBit = (List.range 64).filter (lb x) := List.filter_congr (fun i _ => rfl)
    rw [e1, show 64 = 61 + 3 from rfl, filt_add]
    have e2 : ((List.range 3).filter fun j => lb x (61 + j)) = [] := by
      rw [List.filter_eq_nil_iff]
      intro j hj
      have := List.mem_range.mp hj
      rw [h (61 + j) (by omega) (by omega)]
      decide
    rw [e2]
    rfl
  rw [e]
  simp only [pB_cnt]
  rw [show 64 = 8 + 8 + 8 + 8 + 8 + 8 + 8 + 8 from rfl, filt_add, filt_add, filt_add, filt_add, filt_add, filt_add, filt_add]
  simp
