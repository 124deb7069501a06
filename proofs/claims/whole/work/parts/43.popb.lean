def pcC (b : Nat) : Nat := b - (b / 2 &&& 85)
def pcD (b : Nat) : Nat := (pcC b &&& 51) + (pcC b / 4 &&& 51)
def pcE (b : Nat) : Nat := (pcD b + pcD b / 16) % 16
theorem pc_1 : ∀ b, b < 256 → (b / 2 &&& 85) ≤ b ∧ pcC b < 256 ∧ pcD b < 256 ∧ pcD b % 16 ≤ 4 ∧ pcD b / 16 ≤ 4 ∧ pcE b ≤ 8 ∧ pcE b = fb_ct (fun j => b.testBit j) 8 := by decide +kernel
theorem hn_ct : ∀ (k : Nat) (b : Nat → Nat), (∀ i, i < k → b i < 256) → fb_ct (fun j => (hn b k).testBit j) (8 * k) = fb_sm (fun i => pcE (b i)) k
  | 0, _, _ => rfl
  | k + 1, b, h => by
    have ih := hn_ct k (fun i => b (i + 1)) (fun i hi => h (i + 1) (by omega))
    have h0 := h 0 (by omega)
    have hs := fb_sm_split (fun i => pcE (b i)) 1 k
    rw [Nat.add_comm 1 k] at hs
    rw [hs, show 8 * (k + 1) = 8 + 8 * k by omega, fb_ct_split, fb_ct_cong (q := fun j => (b 0).testBit j) (n := 8), fb_ct_cong (q := fun j => (hn (fun i => b (i + 1)) k).testBit j) (n := 8 * k), ih, fb_sm_cong (f := fun k => pcE (b (1 + k))) (g := fun i => pcE (b (i + 1))), (pc_1 _ h0).2.2.2.2.2.2.symm]
    · show _ = 0 + pcE (b 0) + _
      omega
    · intro i _
      show pcE (b (1 + i)) = pcE (b (i + 1))
      rw [Nat.add_comm]
    · intro j _
      show (hn b (k + 1)).testBit (8 + j) = _
      rw [hn_s, show (256 : Nat) = 2 ^ 8 from rfl, Nat.testBit_two_pow_mul_add _ (show b 0 < 2 ^ 8 from h0), if_neg (by omega), show 8 + j - 8 = j by omega]
    · intro j hj
      show (hn b (k + 1)).testBit j = _
      rw [hn_s, show (256 : Nat) = 2 ^ 8 from rfl, Nat.testBit_two_pow_mul_add _ (show b 0 < 2 ^ 8 from h0), if_pos hj]
