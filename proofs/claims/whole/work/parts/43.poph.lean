theorem low_bit {n t : Nat} (h1 : n.testBit t = true) (h2 : ∀ j, j < t → n.testBit j = false) (j : Nat) : (n - 1).testBit j = if j < t then true else if j = t then false else n.testBit j := by
  have hm : n % 2 ^ (t + 1) = 2 ^ t := by
    apply Nat.eq_of_testBit_eq
    intro i
    rw [Nat.testBit_mod_two_pow, Nat.testBit_two_pow]
    by_cases e : t = i
    · subst e; rw [h1, decide_eq_true (show t < t + 1 by omega), decide_eq_true rfl]; rfl
    · rw [decide_eq_false e]
      by_cases q : i < t + 1
      · rw [h2 i (by omega), Bool.and_false]
      · rw [decide_eq_false q, Bool.false_and]
  have hd := Nat.div_add_mod n (2 ^ (t + 1))
  rw [hm] at hd
  have hp : 1 ≤ 2 ^ t := Nat.one_le_two_pow
  have hp2 : 2 ^ (t + 1) = 2 * 2 ^ t := by rw [Nat.pow_succ, Nat.mul_comm]
  have e1 : n - 1 = 2 ^ (t + 1) * (n / 2 ^ (t + 1)) + (2 ^ t - 1) := by omega
  rw [e1, Nat.testBit_two_pow_mul_add _ (by omega)]
  by_cases q : j < t + 1
  · rw [if_pos q, tb_ones]
    by_cases z : j < t
    · rw [if_pos z, decide_eq_true z]
    · rw [if_neg z, if_pos (by omega), decide_eq_false z]
  · rw [if_neg q, if_neg (by omega), if_neg (by omega), Nat.testBit_div_two_pow]
    congr 1
    omega
theorem low_ex {n m : Nat} (h0 : 0 < n) (h : n < 2 ^ m) : ∃ t, t < m ∧ n.testBit t = true ∧ ∀ j, j < t → n.testBit j = false := by
  have h1 : ∃ i, i < m ∧ n.testBit i = true := by
    apply Classical.byContradiction
    intro q
    have : n = 0 := Nat.eq_of_testBit_eq (fun i => by
      rw [Nat.zero_testBit]
      by_cases z : i < m
      · cases e : n.testBit i with
        | false => rfl
        | true => exact absurd ⟨i, z, e⟩ q
      · exact Nat.testBit_lt_two_pow (Nat.lt_of_lt_of_le h (Nat.pow_le_pow_right (by decide) (by omega))))
    omega
  obtain ⟨t, a1, a2, a3⟩ := fb_first (p := fun i => n.testBit i = true) h1
  exact ⟨t, a1, a2, fun j hj => by simpa using a3 j hj⟩
theorem clr_bit {n : Nat} (j : Nat) : (n &&& (n - 1)).testBit j = (n.testBit j && decide (0 < fb_ct (fun i => n.testBit i) j)) := by
  by_cases h0 : n = 0
  · subst h0; simp
  · obtain ⟨t, _, a2, a3⟩ := low_ex (n := n) (m := n) (by omega) Nat.lt_two_pow_self
    rw [Nat.testBit_and, low_bit a2 a3]
    by_cases q : j < t
    · rw [a3 j q, Bool.false_and, Bool.false_and]
    · rw [if_neg q]
      by_cases e : j = t
      · subst e
        rw [if_pos rfl, (fb_ct_zero (p := fun i => n.testBit i) (n := j)).mpr (fun k hk => a3 k hk), Bool.and_false, decide_eq_false (by omega), Bool.and_false]
      · rw [if_neg e, decide_eq_true (fb_ct_pos.mpr ⟨t, by omega, a2⟩), Bool.and_true, Bool.and_self]
theorem ct_rank (p : Nat → Bool) (k : Nat) : ∀ n, fb_ct (fun i => p i && decide (k ≤ fb_ct p i)) n = fb_ct p n - k
  | 0 => by show 0 = 0 - k; omega
  | n + 1 => by
    rw [fb_ct_succ, fb_ct_succ, ct_rank p k n]
    by_cases hp : p n = true
    · rw [if_pos hp]
      by_cases q : k ≤ fb_ct p n
      · rw [if_pos (by simp [hp, q])]; omega
      · rw [if_neg (by simp [q])]; omega
    · rw [if_neg hp, if_neg (by simp [hp])]
      omega
theorem clr_ct {n m : Nat} : fb_ct (fun i => (n &&& (n - 1)).testBit i) m = fb_ct (fun i => n.testBit i) m - 1 := by
  rw [← ct_rank (fun i => n.testBit i) 1 m]
  exact fb_ct_cong (fun k _ => clr_bit k)
