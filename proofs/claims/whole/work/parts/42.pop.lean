/-! counting bits: eight bytes -/
theorem and256 {u v p q : Nat} (hv : v < 256) (hq : q < 256) : (256 * u + v) &&& (256 * p + q) = 256 * (u &&& p) + (v &&& q) := by
  have hvq : v &&& q < 2 ^ 8 := Nat.and_lt_two_pow _ (show q < 2 ^ 8 from hq)
  apply Nat.eq_of_testBit_eq
  intro j
  rw [Nat.testBit_and, show (256 : Nat) = 2 ^ 8 from rfl, Nat.testBit_two_pow_mul_add _ (show v < 2 ^ 8 from hv), Nat.testBit_two_pow_mul_add _ (show q < 2 ^ 8 from hq), Nat.testBit_two_pow_mul_add _ hvq]
  by_cases h : j < 8
  · rw [if_pos h, if_pos h, if_pos h, Nat.testBit_and]
  · rw [if_neg h, if_neg h, if_neg h, Nat.testBit_and]
