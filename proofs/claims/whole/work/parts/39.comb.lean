/-! bits of longs -/
def lb (x : Int64) (j : Nat) : Bool := x.toBitVec.getLsbD j
theorem lb_or (x y : Int64) (j : Nat) : lb (x ||| y) j = (lb x j || lb y j) := by unfold lb; rw [Int64.toBitVec_or, BitVec.getLsbD_or]
theorem lb_and (x y : Int64) (j : Nat) : lb (x &&& y) j = (lb x j && lb y j) := by unfold lb; rw [Int64.toBitVec_and, BitVec.getLsbD_and]
theorem lb_xor (x y : Int64) (j : Nat) : lb (x ^^^ y) j = (lb x j ^^ lb y j) := by unfold lb; rw [Int64.toBitVec_xor, BitVec.getLsbD_xor]
theorem lb_big {x : Int64} {j : Nat} (h : 64 ≤ j) : lb x j = false := BitVec.getLsbD_of_ge _ _ h
theorem lb_0 (j : Nat) : lb 0 j = false := BitVec.getLsbD_zero
theorem lb_m1 : ∀ j, j < 64 → lb (-1) j = true := by decide +kernel
theorem lb_ext {x y : Int64} (h : ∀ j, j < 64 → lb x j = lb y j) : x = y := Int64.toBitVec_inj.mp (BitVec.eq_of_getLsbD_eq (fun j hj => h j hj))
theorem lb_N {n j : Nat} (hj : j < 64) : lb (lN n) j = n.testBit j := by
  unfold lb
  rw [wb_tb, BitVec.getLsbD_ofNat, decide_eq_true hj, Bool.true_and]
theorem lb_shl (x : Int64) {k j : Nat} (hk : k < 64) (hj : j < 64) : lb (x <<< ((nI k).toInt64 &&& 63)) j = (decide (k ≤ j) && lb x (j - k)) := by
  obtain ⟨n, hn, rfl⟩ := wb_of x
  rw [wb_shl n hk, lb_N hj, Nat.testBit_mul_two_pow]
  by_cases q : k ≤ j
  · rw [decide_eq_true q, Bool.true_and, Bool.true_and, lb_N (by omega)]
  · rw [decide_eq_false q, Bool.false_and, Bool.false_and]
theorem lb_one {k j : Nat} (hk : k < 64) (hj : j < 64) : lb ((1 : Int64) <<< ((nI k).toInt64 &&& 63)) j = decide (j = k) := by
  rw [lb_shl _ hk hj, show (1 : Int64) = lN 1 from rfl]
  by_cases q : k ≤ j
  · rw [decide_eq_true q, Bool.true_and, lb_N (by omega), show (1 : Nat) = 2 ^ 0 from rfl, Nat.testBit_two_pow]
    by_cases e : j = k
    · rw [decide_eq_true e, decide_eq_true (by omega)]
    · rw [decide_eq_false e, decide_eq_false (by omega)]
  · rw [decide_eq_false q, Bool.false_and, decide_eq_false (by omega)]
theorem comb_n {m : Nat} (h1 : 1 ≤ m) (h2 : m ≤ 60) : ∃ x, RC_combOf (nI m) = some x ∧ ∀ j, j < 64 → lb x j = decide (j % m = 0) := by
  have key := iter_inv (body := fun s : (Int64 × Int32) => RC_combOf_L4 (nI m) s.1 s.2) (fun s => ∃ k, s.2 = nI k ∧ k ≤ 124 ∧ k % m = 0 ∧ ∀ j, j < 64 → lb s.1 j = (decide (j % m = 0) && decide (j < k))) (fun x => ∀ j, j < 64 → lb x j = decide (j % m = 0)) (fun s => 200 - tn s.2) ?_ FUEL (0, 0) ⟨0, rfl, by omega, Nat.zero_mod _, fun j hj => ?_⟩ (fuel (by omega))
  · obtain ⟨x, a1, a2⟩ := key
    refine ⟨x, ?_, a2⟩
    unfold RC_combOf
    rw [a1, bd_s]
  · rintro ⟨x, k'⟩ ⟨k, rfl, hk, hkm, hx⟩
    by_cases q : k < 64
    · left
      refine ⟨(x ||| ((1 : Int64) <<< ((nI k).toInt64 &&& 63)), nI (k + m)), ?_, ⟨k + m, rfl, by omega, by rw [Nat.add_mod_right]; exact hkm, fun j hj => ?_⟩, ?_⟩
      · show RC_combOf_L4 (nI m) x (nI k) = _
        unfold RC_combOf_L4
        rw [if_neg (by rw [show (64 : Int32) = nI 64 from rfl, le_nI (by omega) (by omega)]; omega), bnd_x, show (1 : Int32) = nI 1 from rfl, jmax_nI (by omega) (by omega), Nat.max_eq_right h1, nI_add, bnd_x]
      · rw [lb_or, hx j hj, lb_one q hj]
        by_cases e : j = k
        · subst e
          rw [decide_eq_true hkm, decide_eq_true rfl, Bool.or_true, decide_eq_true (show j < j + m by omega), Bool.true_and]
        · rw [decide_eq_false e, Bool.or_false]
          by_cases z : j % m = 0
          · rw [decide_eq_true z, Bool.true_and, Bool.true_and]
            by_cases z2 : j < k
            · rw [decide_eq_true z2, decide_eq_true (show j < k + m by omega)]
            · rw [decide_eq_false z2, decide_eq_false]
              intro z3
              exact mod_gap (m := m) (x := k) (y := j) (by rw [z, hkm]) (by omega) z3
          · rw [decide_eq_false z, Bool.false_and, Bool.false_and]
      · show 200 - tn (nI (k + m)) < 200 - tn (nI k)
        rw [tn_nI (by omega), tn_nI (by omega)]
        omega
    · right
      refine ⟨x, ?_, fun j hj => ?_⟩
      · show RC_combOf_L4 (nI m) x (nI k) = _
        unfold RC_combOf_L4
        rw [if_pos (by rw [show (64 : Int32) = nI 64 from rfl, le_nI (by omega) (by omega)]; omega)]
      · rw [hx j hj, decide_eq_true (show j < k by omega), Bool.and_true]
  · show lb 0 j = _
    rw [lb_0, decide_eq_false (show ¬ j < 0 by omega), Bool.and_false]
