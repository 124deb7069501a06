/-! counting bits -/
def hn (b : Nat → Nat) : Nat → Nat
  | 0 => 0
  | k + 1 => 256 * hn (fun i => b (i + 1)) k + b 0
theorem hn_s (b : Nat → Nat) (k : Nat) : hn b (k + 1) = 256 * hn (fun i => b (i + 1)) k + b 0 := rfl
theorem hn_cong {b d : Nat → Nat} : ∀ {k : Nat}, (∀ i, i < k → b i = d i) → hn b k = hn d k
  | 0, _ => rfl
  | k + 1, h => by
    rw [hn_s, hn_s, hn_cong (k := k) (b := fun i => b (i + 1)) (d := fun i => d (i + 1)) (fun i hi => h (i + 1) (by omega)), h 0 (by omega)]
theorem hn_le {b d : Nat → Nat} : ∀ {k : Nat}, (∀ i, i < k → b i ≤ d i) → hn b k ≤ hn d k
  | 0, _ => Nat.le_refl _
  | k + 1, h => by
    have := hn_le (k := k) (b := fun i => b (i + 1)) (d := fun i => d (i + 1)) (fun i hi => h (i + 1) (by omega))
    have := h 0 (by omega)
    rw [hn_s, hn_s]
    omega
theorem hn_add (b d : Nat → Nat) : ∀ k, hn b k + hn d k = hn (fun i => b i + d i) k
  | 0 => rfl
  | k + 1 => by
    have := hn_add (fun i => b (i + 1)) (fun i => d (i + 1)) k
    rw [hn_s, hn_s, hn_s, ← this]
    omega
theorem hn_sub {b d : Nat → Nat} {k : Nat} (h : ∀ i, i < k → d i ≤ b i) : hn b k - hn d k = hn (fun i => b i - d i) k := by
  have h1 := hn_add (fun i => b i - d i) d k
  rw [hn_cong (b := fun i => b i - d i + d i) (d := b) (fun i hi => by have := h i hi; show b i - d i + d i = b i; omega)] at h1
  omega
theorem hn_lt {b : Nat → Nat} : ∀ {k : Nat}, (∀ i, i < k → b i < 256) → hn b k < 256 ^ k
  | 0, _ => by show 0 < 1; omega
  | k + 1, h => by
    have := hn_lt (k := k) (b := fun i => b (i + 1)) (fun i hi => h (i + 1) (by omega))
    have := h 0 (by omega)
    rw [hn_s, Nat.pow_succ]
    omega
theorem hn_of : ∀ (k x : Nat), x < 256 ^ k → ∃ b : Nat → Nat, (∀ i, b i < 256) ∧ x = hn b k
  | 0, x, h => ⟨fun _ => 0, fun _ => Nat.succ_pos _, by have : x < 1 := h; show x = 0; omega⟩
  | k + 1, x, h => by
    obtain ⟨b, h1, h2⟩ := hn_of k (x / 256) (by rw [Nat.pow_succ] at h; omega)
    refine ⟨fun i => if i = 0 then x % 256 else b (i - 1), fun i => ?_, ?_⟩
    · show (if i = 0 then x % 256 else b (i - 1)) < 256
      split
      · omega
      · exact h1 _
    · rw [hn_s, hn_cong (b := fun i => if i + 1 = 0 then x % 256 else b (i + 1 - 1)) (d := b) (fun i _ => by show (if i + 1 = 0 then x % 256 else b (i + 1 - 1)) = b i; rw [if_neg (by omega)]; rfl), ← h2]
      show x = 256 * (x / 256) + (if 0 = 0 then x % 256 else b (0 - 1))
      rw [if_pos rfl]
      omega
theorem p256_8 : (256 : Nat) ^ 8 = 18446744073709551616 := by decide +kernel
theorem p256_4 : (256 : Nat) ^ 4 = 4294967296 := by decide +kernel
theorem hn_lt8 {b : Nat → Nat} (h : ∀ i, b i < 256) : hn b 8 < 2 ^ 64 := by
  have := hn_lt (k := 8) (fun i _ => h i)
  rw [p256_8] at this
  omega
theorem hn_lt4 {b : Nat → Nat} (h : ∀ i, b i < 256) : hn b 4 < 4294967296 := by
  have := hn_lt (k := 4) (fun i _ => h i)
  rw [p256_4] at this
  exact this
theorem hn_of8 {n : Nat} (h : n < 2 ^ 64) : ∃ b : Nat → Nat, (∀ i, b i < 256) ∧ n = hn b 8 := hn_of 8 n (by rw [p256_8]; omega)
theorem hn_of4 {n : Nat} (h : n < 4294967296) : ∃ b : Nat → Nat, (∀ i, b i < 256) ∧ n = hn b 4 := hn_of 4 n (by rw [p256_4]; exact h)
theorem pc_a : ∀ b, b < 2 → ∀ w, w < 128 → (128 * b + w) &&& 85 = w &&& 85 := by decide +kernel
theorem pc_b : ∀ b, b < 4 → ∀ w, w < 64 → (64 * b + w) &&& 51 = w &&& 51 := by decide +kernel
theorem hn_1 : ∀ (k : Nat) (b : Nat → Nat), (∀ i, i < k → b i < 256) → hn b k / 2 &&& hn (fun _ => 85) k = hn (fun i => b i / 2 &&& 85) k
  | 0, _, _ => by simp [hn]
  | k + 1, b, h => by
    have ih := hn_1 k (fun i => b (i + 1)) (fun i hi => h (i + 1) (by omega))
    have h0 := h 0 (by omega)
    rw [hn_s, hn_s, hn_s, ← ih]
    generalize hn (fun i => b (i + 1)) k = u
    generalize hn (fun _ => 85) k = m
    rw [show (256 * u + b 0) / 2 = 256 * (u / 2) + (128 * (u % 2) + b 0 / 2) by omega, and256 (by omega) (by omega), pc_a _ (by omega) _ (by omega)]
theorem hn_2 : ∀ (k : Nat) (b : Nat → Nat), (∀ i, i < k → b i < 256) → hn b k / 4 &&& hn (fun _ => 51) k = hn (fun i => b i / 4 &&& 51) k
  | 0, _, _ => by simp [hn]
  | k + 1, b, h => by
    have ih := hn_2 k (fun i => b (i + 1)) (fun i hi => h (i + 1) (by omega))
    have h0 := h 0 (by omega)
    rw [hn_s, hn_s, hn_s, ← ih]
    generalize hn (fun i => b (i + 1)) k = u
    generalize hn (fun _ => 51) k = m
    rw [show (256 * u + b 0) / 4 = 256 * (u / 4) + (64 * (u % 4) + b 0 / 4) by omega, and256 (by omega) (by omega), pc_b _ (by omega) _ (by omega)]
theorem hn_and (q : Nat) (hq : q < 256) : ∀ (k : Nat) (b : Nat → Nat), (∀ i, i < k → b i < 256) → hn b k &&& hn (fun _ => q) k = hn (fun i => b i &&& q) k
  | 0, _, _ => by simp [hn]
  | k + 1, b, h => by
    have ih := hn_and q hq k (fun i => b (i + 1)) (fun i hi => h (i + 1) (by omega))
    have h0 := h 0 (by omega)
    rw [hn_s, hn_s, hn_s, ← ih, and256 h0 hq]
theorem hn_m16 : ∀ (k : Nat) (b : Nat → Nat), (∀ i, i < k → b i % 16 ≤ 4) → hn b k % 16 ≤ 4
  | 0, _, _ => by show 0 % 16 ≤ 4; omega
  | k + 1, b, h => by
    have h0 := h 0 (by omega)
    rw [hn_s]
    omega
theorem hn_3 : ∀ (k : Nat) (b : Nat → Nat), (∀ i, i < k → b i % 16 ≤ 4 ∧ b i / 16 ≤ 4) → (hn b k + hn b k / 16) &&& hn (fun _ => 15) k = hn (fun i => (b i + b i / 16) % 16) k
  | 0, _, _ => by simp [hn]
  | k + 1, b, h => by
    have ih := hn_3 k (fun i => b (i + 1)) (fun i hi => h (i + 1) (by omega))
    have hm := hn_m16 k (fun i => b (i + 1)) (fun i hi => (h (i + 1) (by omega)).1)
    have h0 := h 0 (by omega)
    rw [hn_s, hn_s, hn_s, ← ih]
    generalize hn (fun i => b (i + 1)) k = u at hm
    generalize hn (fun _ => 15) k = m
    rw [show 256 * u + b 0 + (256 * u + b 0) / 16 = 256 * (u + u / 16) + (16 * (u % 16) + (b 0 + b 0 / 16)) by omega, and256 (by omega) (by omega), show (15 : Nat) = 2 ^ 4 - 1 from rfl, Nat.and_two_pow_sub_one_eq_mod]
    omega
