/-! bits of a long -/
theorem bit_one : ∀ k, k < 50 → ∀ p, p < 64 → (((1 : Int64) <<< ((nI k).toInt64 &&& 63)).toBitVec.getLsbD p) = decide (p = k) := by decide +kernel
theorem bit_amt : ∀ k, k < 50 → (((nI k).toInt64 &&& 63).toBitVec.smod 64) = BitVec.ofNat 64 k := by decide +kernel
theorem bit_or (a b : Int64) (p : Nat) : (a ||| b).toBitVec.getLsbD p = (a.toBitVec.getLsbD p || b.toBitVec.getLsbD p) := by
  rw [Int64.toBitVec_or, BitVec.getLsbD_or]
theorem bit_zero (p : Nat) : (0 : Int64).toBitVec.getLsbD p = false := by
  show (0#64).getLsbD p = false
  simp
theorem lg_cmp0 (a : Int64) : lg_cmp a 0 = 0 ↔ a = 0 := by
  unfold lg_cmp
  constructor
  · intro h
    split at h
    · exact absurd h (by decide)
    · split at h
      · assumption
      · exact absurd h (by decide)
  · intro h
    subst h
    rfl
theorem and1_0 (y : Int64) : y &&& 1 = 0 ↔ y.toBitVec.getLsbD 0 = false := by
  constructor
  · intro h
    have := congrArg (fun z : Int64 => z.toBitVec.getLsbD 0) h
    simp only [Int64.toBitVec_and, BitVec.getLsbD_and] at this
    simpa using this
  · intro h
    apply Int64.toBitVec_inj.mp
    rw [Int64.toBitVec_and]
    apply BitVec.eq_of_getLsbD_eq
    intro i hi
    rw [BitVec.getLsbD_and]
    show (y.toBitVec.getLsbD i && (1#64).getLsbD i) = (0#64).getLsbD i
    rcases Nat.eq_zero_or_pos i with rfl | hp
    · rw [h]; simp
    · have : (1#64).getLsbD i = false := by
        rw [BitVec.getLsbD_one]
        simp; omega
      rw [this]; simp
theorem bit_shr (x : Int64) {k : Nat} (hk : k < 50) : ((x >>> ((nI k).toInt64 &&& 63)).toBitVec.getLsbD 0) = x.toBitVec.getLsbD k := by
  rw [Int64.toBitVec_shiftRight, bit_amt k hk]
  unfold BitVec.sshiftRight'
  rw [BitVec.getLsbD_sshiftRight]
  have : (BitVec.ofNat 64 k).toNat = k := by simp; omega
  rw [this]
  simp
  omega
theorem heard_bit (x : Int64) {k : Nat} (hk : k < 50) : lg_cmp ((x >>> ((nI k).toInt64 &&& 63)) &&& 1) 0 = 0 ↔ x.toBitVec.getLsbD k = false := by
  rw [lg_cmp0, and1_0, bit_shr x hk]
