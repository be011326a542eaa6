/-! ===== bits of a long ===== -/
theorem lN_or (a b : Nat) : lN a ||| lN b = lN (a ||| b) := by
  apply Int64.toBitVec_inj.mp
  apply BitVec.eq_of_toNat_eq
  show (BitVec.ofNat 64 a ||| BitVec.ofNat 64 b).toNat = (BitVec.ofNat 64 (a ||| b)).toNat
  rw [BitVec.toNat_or, BitVec.toNat_ofNat, BitVec.toNat_ofNat, BitVec.toNat_ofNat, Nat.or_mod_two_pow]
theorem sh1L : ∀ k, k < 64 → (1 : Int64) <<< ((nI k).toInt64 &&& 63) = lN (2 ^ k) := by decide +kernel
theorem sm63 : ∀ k, k < 64 → (((nI k).toInt64 &&& 63).toBitVec.smod 64).toNat = k := by decide +kernel
theorem bitL {m k : Nat} (hk : k < 64) : (lN m >>> ((nI k).toInt64 &&& 63)) &&& 1 = lN (m / 2 ^ k % 2) := by
  apply Int64.toBitVec_inj.mp
  show (lN m).toBitVec.sshiftRight (((nI k).toInt64 &&& 63).toBitVec.smod 64).toNat &&& 1#64 = BitVec.ofNat 64 (m / 2 ^ k % 2)
  rw [sm63 k hk]
  apply BitVec.eq_of_getLsbD_eq
  intro i hi
  have r : (BitVec.ofNat 64 (m / 2 ^ k % 2)).getLsbD i = (decide (i < 64) && (m / 2 ^ k % 2).testBit i) := BitVec.getLsbD_ofNat ..
  have o : (1#64).getLsbD i = (decide (i < 64) && Nat.testBit 1 i) := BitVec.getLsbD_ofNat ..
  rw [BitVec.getLsbD_and, BitVec.getLsbD_sshiftRight, lN_bv, r, o]
  by_cases z : i = 0
  · subst z
    have g : (BitVec.ofNat 64 m).getLsbD k = decide (m / 2 ^ k % 2 = 1) := by
      rw [BitVec.getLsbD_ofNat, Nat.testBit_eq_decide_div_mod_eq, decide_eq_true hk, Bool.true_and]
    rw [Nat.add_zero, if_pos hk, g, Nat.testBit_zero, Nat.testBit_zero, Nat.mod_mod]
    simp
  · have h0 : (m / 2 ^ k % 2).testBit i = false := Nat.testBit_lt_two_pow (Nat.lt_of_lt_of_le (Nat.mod_lt _ (by decide)) (by rw [show (2 : Nat) = 2 ^ 1 from rfl]; exact Nat.pow_le_pow_right (by decide) (by omega)))
    have h1 : Nat.testBit 1 i = false := Nat.testBit_lt_two_pow (Nat.one_lt_two_pow z)
    rw [h0, h1, Bool.and_false, Bool.and_false]
