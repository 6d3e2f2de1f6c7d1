/-! the bytes of an int, with either shift -/
theorem byt_eq (x : Int32) : ∀ k, k < 4 → ((x >>> (((8 : Int32) * nI k) &&& 31)) &&& (255 : Int32)) = ((((x.toUInt32 >>> ((nI (8 * k)).toUInt32 &&& Int32.toUInt32 31)).toInt32) &&& (255 : Int32))) := by
  intro k hk
  have key : ∀ s : Nat, s ≤ 24 → x.toBitVec.sshiftRight s &&& (255 : Int32).toBitVec = (x.toBitVec >>> s) &&& (255 : Int32).toBitVec := by
    intro s hs
    refine BitVec.eq_of_getLsbD_eq (fun i hi => ?_)
    rw [BitVec.getLsbD_and, BitVec.getLsbD_and, BitVec.getLsbD_sshiftRight, BitVec.getLsbD_ushiftRight]
    by_cases c : i < 8
    · have h1 : decide (32 ≤ i) = false := decide_eq_false (by omega)
      rw [h1, if_pos (by omega)]
      simp
    · have : (255 : Int32).toBitVec.getLsbD i = false := by
        have : ∀ i, i < 32 → ¬ i < 8 → (255 : Int32).toBitVec.getLsbD i = false := by decide
        exact this i hi c
      rw [this, Bool.and_false, Bool.and_false]
  apply Int32.toBitVec_inj.mp
  rw [Int32.toBitVec_and, Int32.toBitVec_and, Int32.toBitVec_shiftRight]
  have e1 : ∀ k, k < 4 → ((((8 : Int32) * nI k) &&& 31).toBitVec.smod 32) = BitVec.ofNat 32 (8 * k) := by decide +kernel
  have e2 : ∀ k, k < 4 → ((nI (8 * k)).toUInt32 &&& Int32.toUInt32 31) = UInt32.ofNat (8 * k) := by decide +kernel
  have e3 : ∀ k, k < 4 → (UInt32.ofNat (8 * k)).toBitVec % 32 = BitVec.ofNat 32 (8 * k) := by decide +kernel
  have e4 : ∀ k, k < 4 → (BitVec.ofNat 32 (8 * k)).toNat = 8 * k := by decide +kernel
  rw [e1 k hk, e2 k hk]
  show BitVec.sshiftRight' _ _ &&& _ = (x.toUInt32 >>> UInt32.ofNat (8 * k)).toBitVec &&& _
  rw [UInt32.toBitVec_shiftRight, e3 k hk]
  unfold BitVec.sshiftRight'
  rw [BitVec.ushiftRight_eq', e4 k hk]
  exact key (8 * k) (by omega)
