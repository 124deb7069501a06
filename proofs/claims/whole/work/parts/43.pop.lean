/-! counting bits -/
def hn (b : Nat → Nat) : Nat → Nat
  | 0 => 0
  | k + 1 => 256 * hn (fun i => b (i + 1)) k + b 0
theorem hn_s (b : Nat → Nat) (k : Nat) : hn b (k + 1) = 256 * hn (fun i => b (i + 1)) k + b 0 := rfl
theorem hn_cong {b d : Nat → Nat} : ∀ {k : Nat}, (∀ i, i < k → b i = d i) → hn b k = hn d k
  | 0, _ => rfl
  | k + 1, h => by
    rw [hn_s, hn_s, hn_cong (k := k) (b := fun i => b (i + 1)) (d := fun i => d (i + 1)) (fun i hi => h (i + 1) (by omega)), h 0 (by omega)]
theorem hn_le {b d : Nat → Nat} : ∀ {k : Nat}, (∀ i, i < k → b i ≤ d i) → hn b k ≤ hn d k
  | 0, _ => Nat.le_refl _
  | k + 1, h => by
    have := hn_le (k := k) (b := fun i => b (i + 1)) (d := fun i => d (i + 1)) (fun i hi => h (i + 1) (by omega))
    have := h 0 (by omega)
    rw [hn_s, hn_s]
    omega
theorem hn_add (b d : Nat → Nat) : ∀ k, hn b k + hn d k = hn (fun i => b i + d i) k
  | 0 => rfl
  | k + 1 => by
    have := hn_add (fun i => b (i + 1)) (fun i => d (i + 1)) k
    rw [hn_s, hn_s, hn_s, ← this]
    omega
theorem hn_sub {b d : Nat → Nat} {k : Nat} (h : ∀ i, i < k → d i ≤ b i) : hn b k - hn d k = hn (fun i => b i - d i) k := by
  have h1 := hn_add (fun i => b i - d i) d k
  rw [hn_cong (b := fun i => b i - d i + d i) (d := b) (fun i hi => by have := h i hi; show b i - d i + d i = b i; omega)] at h1
  omega
theorem hn_lt {b : Nat → Nat} : ∀ {k : Nat}, (∀ i, i < k → b i < 256) → hn b k < 256 ^ k
  | 0, _ => by show 0 < 1; omega
  | k + 1, h => by
    have := hn_lt (k := k) (b := fun i => b (i + 1)) (fun i hi => h (i + 1) (by omega))
    have := h 0 (by omega)
    rw [hn_s, Nat.pow_succ]
    omega
theorem hn_of : ∀ (k x : Nat), x < 256 ^ k → ∃ b : Nat → Nat, (∀ i, b i < 256) ∧ x = hn b k
  | 0, x, h => ⟨fun _ => 0, fun _ => by omega, by have : x < 1 := h; show x = 0; omega⟩
  | k + 1, x, h => by
    obtain ⟨b, h1, h2⟩ := hn_of k (x / 256) (by rw [Nat.pow_succ] at h; omega)
    refine ⟨fun i => if i = 0 then x % 256 else b (i - 1), fun i => ?_, ?_⟩
    · show (if i = 0 then x % 256 else b (i - 1)) < 256
      split
      · omega
      · exact h1 _
    · rw [hn_s, hn_cong (b := fun i => if i + 1 = 0 then x % 256 else b (i + 1 - 1)) (d := b) (fun i _ => by show (if i + 1 = 0 then x % 256 else b (i + 1 - 1)) = b i; rw [if_neg (by omega)]; rfl), ← h2]
      show x = 256 * (x / 256) + (if 0 = 0 then x % 256 else b (0 - 1))
      rw [if_pos rfl]
      omega
theorem pc_a : ∀ b, b < 2 → ∀ w, w < 128 → (128 * b + w) &&& 85 = w &&& 85 := by decide +kernel
theorem pc_b : ∀ b, b < 4 → ∀ w, w < 64 → (64 * b + w) &&& 51 = w &&& 51 := by decide +kernel
theorem hn_1 : ∀ (k : Nat) (b : Nat → Nat), (∀ i, i < k → b i < 256) → hn b k / 2 &&& hn (fun _ => 85) k = hn (fun i => b i / 2 &&& 85) k
  | 0, _, _ => rfl
  | k + 1, b, h => by
    have ih := hn_1 k (fun i => b (i + 1)) (fun i hi => h (i + 1) (by omega))
    have h0 := h 0 (by omega)
    rw [hn_s, hn_s, hn_s, ← ih]
    generalize hn (fun i => b (i + 1)) k = u
    generalize hn (fun _ => 85) k = m
    rw [show (256 * u + b 0) / 2 = 256 * (u / 2) + (128 * (u % 2) + b 0 / 2) by omega, and256 (by omega) (by omega), pc_a _ (by omega) _ (by omega)]
theorem hn_2 : ∀ (k : Nat) (b : Nat → Nat), (∀ i, i < k → b i < 256) → hn b k / 4 &&& hn (fun _ => 51) k = hn (fun i => b i / 4 &&& 51) k
  | 0, _, _ => rfl
  | k + 1, b, h => by
    have ih := hn_2 k (fun i => b (i + 1)) (fun i hi => h (i + 1) (by omega))
    have h0 := h 0 (by omega)
    rw [hn_s, hn_s, hn_s, ← ih]
    generalize hn (fun i => b (i + 1)) k = u
    generalize hn (fun _ => 51) k = m
    rw [show (256 * u + b 0) / 4 = 256 * (u / 4) + (64 * (u % 4) + b 0 / 4) by omega, and256 (by omega) (by omega), pc_b _ (by omega) _ (by omega)]
theorem hn_and (q : Nat) (hq : q < 256) : ∀ (k : Nat) (b : Nat → Nat), (∀ i, i < k → b i < 256) → hn b k &&& hn (fun _ => q) k = hn (fun i => b i &&& q) k
  | 0, _, _ => rfl
  | k + 1, b, h => by
    have ih := hn_and q hq k (fun i => b (i + 1)) (fun i hi => h (i + 1) (by omega))
    have h0 := h 0 (by omega)
    rw [hn_s, hn_s, hn_s, ← ih, and256 h0 hq]
theorem hn_m16 : ∀ (k : Nat) (b : Nat → Nat), (∀ i, i < k → b i % 16 ≤ 4) → hn b k % 16 ≤ 4
  | 0, _, _ => by show 0 % 16 ≤ 4; omega
  | k + 1, b, h => by
    have h0 := h 0 (by omega)
    rw [hn_s]
    omega
theorem hn_3 : ∀ (k : Nat) (b : Nat → Nat), (∀ i, i < k → b i % 16 ≤ 4 ∧ b i / 16 ≤ 4) → (hn b k + hn b k / 16) &&& hn (fun _ => 15) k = hn (fun i => (b i + b i / 16) % 16) k
  | 0, _, _ => rfl
  | k + 1, b, h => by
    have ih := hn_3 k (fun i => b (i + 1)) (fun i hi => h (i + 1) (by omega))
    have hm := hn_m16 k (fun i => b (i + 1)) (fun i hi => (h (i + 1) (by omega)).1)
    have h0 := h 0 (by omega)
    rw [hn_s, hn_s, hn_s, ← ih]
    generalize hn (fun i => b (i + 1)) k = u at hm
    generalize hn (fun _ => 15) k = m
    rw [show 256 * u + b 0 + (256 * u + b 0) / 16 = 256 * (u + u / 16) + (16 * (u % 16) + (b 0 + b 0 / 16)) by omega, and256 (by omega) (by omega), show (15 : Nat) = 2 ^ 4 - 1 from rfl, Nat.and_two_pow_sub_one_eq_mod]
    omega
def pcC (b : Nat) : Nat := b - (b / 2 &&& 85)
def pcD (b : Nat) : Nat := (pcC b &&& 51) + (pcC b / 4 &&& 51)
def pcE (b : Nat) : Nat := (pcD b + pcD b / 16) % 16
theorem pc_1 : ∀ b, b < 256 → (b / 2 &&& 85) ≤ b ∧ pcC b < 256 ∧ pcD b < 256 ∧ pcD b % 16 ≤ 4 ∧ pcD b / 16 ≤ 4 ∧ pcE b ≤ 8 ∧ pcE b = fb_ct (fun j => b.testBit j) 8 := by decide +kernel
theorem hn_ct : ∀ (k : Nat) (b : Nat → Nat), (∀ i, i < k → b i < 256) → fb_ct (fun j => (hn b k).testBit j) (8 * k) = fb_sm (fun i => pcE (b i)) k
  | 0, _, _ => rfl
  | k + 1, b, h => by
    have ih := hn_ct k (fun i => b (i + 1)) (fun i hi => h (i + 1) (by omega))
    have h0 := h 0 (by omega)
    have hs := fb_sm_split (fun i => pcE (b i)) 1 k
    rw [Nat.add_comm 1 k] at hs
    rw [hs, show 8 * (k + 1) = 8 + 8 * k by omega, fb_ct_split, fb_ct_cong (q := fun j => (b 0).testBit j) (n := 8), fb_ct_cong (q := fun j => (hn (fun i => b (i + 1)) k).testBit j) (n := 8 * k), ih, fb_sm_cong (f := fun k => pcE (b (1 + k))) (g := fun i => pcE (b (i + 1))), (pc_1 _ h0).2.2.2.2.2.2.symm]
    · show _ = 0 + pcE (b 0) + _
      omega
    · intro i _
      show pcE (b (1 + i)) = pcE (b (i + 1))
      rw [Nat.add_comm]
    · intro j _
      show (hn b (k + 1)).testBit (8 + j) = _
      rw [hn_s, show (256 : Nat) = 2 ^ 8 from rfl, Nat.testBit_two_pow_mul_add _ (show b 0 < 2 ^ 8 from h0), if_neg (by omega), show 8 + j - 8 = j by omega]
    · intro j hj
      show (hn b (k + 1)).testBit j = _
      rw [hn_s, show (256 : Nat) = 2 ^ 8 from rfl, Nat.testBit_two_pow_mul_add _ (show b 0 < 2 ^ 8 from h0), if_pos hj]
theorem pc_sum {e0 e1 e2 e3 e4 e5 e6 e7 : Nat} (h0 : e0 ≤ 8) (h1 : e1 ≤ 8) (h2 : e2 ≤ 8) (h3 : e3 ≤ 8) (h4 : e4 ≤ 8) (h5 : e5 ≤ 8) (h6 : e6 ≤ 8) (h7 : e7 ≤ 8) {x y z t : Nat} (hx : x = e0 + 256 * e1 + 65536 * e2 + 16777216 * e3 + 4294967296 * e4 + 1099511627776 * e5 + 281474976710656 * e6 + 72057594037927936 * e7) (hy : y = x + x / 256) (hz : z = y + y / 65536) (ht : t = z + z / 4294967296) : t % 128 = e0 + e1 + e2 + e3 + e4 + e5 + e6 + e7 ∧ y < 2 ^ 64 ∧ z < 2 ^ 64 ∧ t < 2 ^ 64 := by
  have a1 : x / 256 = e1 + 256 * e2 + 65536 * e3 + 16777216 * e4 + 4294967296 * e5 + 1099511627776 * e6 + 281474976710656 * e7 := by omega
  have a2 : y / 65536 = (e2 + e3) + 256 * (e3 + e4) + 65536 * (e4 + e5) + 16777216 * (e5 + e6) + 4294967296 * (e6 + e7) + 1099511627776 * e7 := by omega
  have a3 : z / 4294967296 = (e4 + e5 + e6 + e7) + 256 * (e5 + e6 + e7) + 65536 * (e6 + e7) + 16777216 * e7 := by omega
  have : (2 : Nat) ^ 64 = 18446744073709551616 := rfl
  refine ⟨by omega, by omega, by omega, by omega⟩
theorem bcL_n {n : Nat} (hn64 : n < 2 ^ 64) : JL_bitCount_95d88 (lN n) = some (nI (fb_ct (fun j => n.testBit j) 64)) := by
  have e64 : (2 : Nat) ^ 64 = 18446744073709551616 := rfl
  obtain ⟨b, hb, rfl⟩ := hn_of 8 n hn64
  have m1 : hn (fun _ => 85) 8 = 6148914691236517205 := by decide
  have m2 : hn (fun _ => 51) 8 = 3689348814741910323 := by decide
  have m3 : hn (fun _ => 15) 8 = 1085102592571150095 := by decide
  have s1 : ((lN (hn b 8)).toUInt64 >>> ((1 : Int32).toInt64.toUInt64 &&& Int64.toUInt64 63)).toInt64 = lN (hn b 8 / 2) := wb_shr (k := 1) hn64 (by omega)
  have hC : hn b 8 - (hn b 8 / 2 &&& 6148914691236517205) = hn (fun i => pcC (b i)) 8 := by
    rw [← m1, hn_1 8 b (fun i _ => hb i), hn_sub (fun i _ => (pc_1 _ (hb i)).1)]
    rfl
  have lC : hn (fun i => pcC (b i)) 8 < 2 ^ 64 := hn_lt (fun i _ => (pc_1 _ (hb i)).2.1)
  have hle : hn b 8 / 2 &&& 6148914691236517205 ≤ hn b 8 := by
    rw [← m1, hn_1 8 b (fun i _ => hb i)]
    exact hn_le (fun i _ => (pc_1 _ (hb i)).1)
  have s2 : ((lN (hn (fun i => pcC (b i)) 8)).toUInt64 >>> ((2 : Int32).toInt64.toUInt64 &&& Int64.toUInt64 63)).toInt64 = lN (hn (fun i => pcC (b i)) 8 / 4) := wb_shr (k := 2) lC (by omega)
  have hD : (hn (fun i => pcC (b i)) 8 &&& 3689348814741910323) + (hn (fun i => pcC (b i)) 8 / 4 &&& 3689348814741910323) = hn (fun i => pcD (b i)) 8 := by
    rw [← m2, hn_2 8 _ (fun i _ => (pc_1 _ (hb i)).2.1), hn_and 51 (by omega) 8 _ (fun i _ => (pc_1 _ (hb i)).2.1), hn_add]
    rfl
  have lD : hn (fun i => pcD (b i)) 8 < 2 ^ 64 := hn_lt (fun i _ => (pc_1 _ (hb i)).2.2.1)
  have s3 : ((lN (hn (fun i => pcD (b i)) 8)).toUInt64 >>> ((4 : Int32).toInt64.toUInt64 &&& Int64.toUInt64 63)).toInt64 = lN (hn (fun i => pcD (b i)) 8 / 16) := wb_shr (k := 4) lD (by omega)
  have hE : (hn (fun i => pcD (b i)) 8 + hn (fun i => pcD (b i)) 8 / 16) &&& 1085102592571150095 = hn (fun i => pcE (b i)) 8 := by
    rw [← m3, hn_3 8 _ (fun i _ => ⟨(pc_1 _ (hb i)).2.2.2.1, (pc_1 _ (hb i)).2.2.2.2.1⟩)]
    rfl
  have he : ∀ i, pcE (b i) ≤ 8 := fun i => (pc_1 _ (hb i)).2.2.2.2.2.1
  have hx : hn (fun i => pcE (b i)) 8 = pcE (b 0) + 256 * pcE (b 1) + 65536 * pcE (b 2) + 16777216 * pcE (b 3) + 4294967296 * pcE (b 4) + 1099511627776 * pcE (b 5) + 281474976710656 * pcE (b 6) + 72057594037927936 * pcE (b 7) := by
    show 256 * (256 * (256 * (256 * (256 * (256 * (256 * (256 * 0 + pcE (b 7)) + pcE (b 6)) + pcE (b 5)) + pcE (b 4)) + pcE (b 3)) + pcE (b 2)) + pcE (b 1)) + pcE (b 0) = _
    omega
  obtain ⟨r1, r2, r3, r4⟩ := pc_sum (he 0) (he 1) (he 2) (he 3) (he 4) (he 5) (he 6) (he 7) hx rfl rfl rfl
  have hct := hn_ct 8 b (fun i _ => hb i)
  have hsm : fb_sm (fun i => pcE (b i)) 8 = pcE (b 0) + pcE (b 1) + pcE (b 2) + pcE (b 3) + pcE (b 4) + pcE (b 5) + pcE (b 6) + pcE (b 7) := by
    show 0 + pcE (b 0) + pcE (b 1) + pcE (b 2) + pcE (b 3) + pcE (b 4) + pcE (b 5) + pcE (b 6) + pcE (b 7) = _
    omega
  have hlt : hn (fun i => pcD (b i)) 8 + hn (fun i => pcD (b i)) 8 / 16 < 2 ^ 64 := by
    have q1 : hn (fun i => pcD (b i)) 8 ≤ hn (fun _ => 68) 8 := hn_le (fun i _ => by have := (pc_1 _ (hb i)).2.2.2; show pcD (b i) ≤ 68; omega)
    have q2 : hn (fun _ => 68) 8 = 4919131752989213764 := by decide
    omega
  have lE : hn (fun i => pcE (b i)) 8 < 2 ^ 64 := hn_lt (fun i _ => by have := he i; show pcE (b i) < 256; omega)
  generalize hn (fun i => pcE (b i)) 8 = X at hE r1 r2 r3 r4 lE
  have s4 : ((lN X).toUInt64 >>> ((8 : Int32).toInt64.toUInt64 &&& Int64.toUInt64 63)).toInt64 = lN (X / 256) := wb_shr (k := 8) lE (by omega)
  have s5 : ((lN (X + X / 256)).toUInt64 >>> ((16 : Int32).toInt64.toUInt64 &&& Int64.toUInt64 63)).toInt64 = lN ((X + X / 256) / 65536) := wb_shr (k := 16) r2 (by omega)
  have s6 : ((lN (X + X / 256 + (X + X / 256) / 65536)).toUInt64 >>> ((32 : Int32).toInt64.toUInt64 &&& Int64.toUInt64 63)).toInt64 = lN ((X + X / 256 + (X + X / 256) / 65536) / 4294967296) := wb_shr (k := 32) r3 (by omega)
  have k1 : (6148914691236517205 : Int64) = lN 6148914691236517205 := rfl
  have k2 : (3689348814741910323 : Int64) = lN 3689348814741910323 := rfl
  have k3 : (1085102592571150095 : Int64) = lN 1085102592571150095 := rfl
  unfold JL_bitCount_95d88
  simp only [bnd_x]
  rw [s1, k1, fb_andL, lN_sub hle, hC, s2, k2, fb_andL, fb_andL, lN_add, hD, s3, lN_add, k3, fb_andL, hE, s4, lN_add, s5, lN_add, s6, lN_add, lN_i, show (127 : Int32) = nI (2 ^ 7 - 1) from rfl, fa_mask]
  rw [show (2 : Nat) ^ 7 = 128 from rfl, r1, ← hsm, ← hct]
theorem bcL_l (x : Int64) : JL_bitCount_95d88 x = some (nI (fb_ct (lb x) 64)) := by
  obtain ⟨n, hn, rfl⟩ := wb_of x
  rw [bcL_n hn]
  congr 2
  exact fb_ct_cong (fun j hj => (lb_N hj).symm)
def ct12 (n : Nat) : Nat := fb_ct (fun j => n.testBit j) 12
theorem bcI_n : ∀ n, n < 4096 → JI_bitCount_0f7a4 (nI n) = some (nI (ct12 n)) := by decide +kernel
theorem iter_mono {S E : Type} {body : S → Option (S ⊕ E)} {e : E} : ∀ {n m : Nat} {s : S}, iter body n s = some e → n ≤ m → iter body m s = some e
  | 0, _, _, h, _ => by cases h
  | n + 1, 0, _, _, hm => by omega
  | n + 1, m + 1, s, h, hm => by
    cases hb : body s with
    | none =>
      have : iter body (n + 1) s = none := by
        show (match body s with | none => none | some (.inl s') => iter body n s' | some (.inr e) => some e) = _
        rw [hb]
      rw [this] at h
      cases h
    | some x =>
      cases x with
      | inl s' =>
        rw [iter_step hb] at h ⊢
        exact iter_mono h (by omega)
      | inr e' =>
        rw [iter_exit hb] at h ⊢
        exact h
theorem bitsM_13 : ∀ n, n < 4096 → iter (fun s : (Int32 × Int32) => Mo_bits_L4 s.1 s.2) 13 (0, nI n) = some (nI (ct12 n)) := by decide +kernel
theorem bitsM_n {n : Nat} (h : n < 4096) : Mo_bits (nI n) = some (nI (ct12 n)) := by
  unfold Mo_bits
  rw [iter_mono (bitsM_13 n h) (Nat.le_of_lt (fuel (by omega))), bd_s]
theorem ct12_le (n : Nat) : ct12 n ≤ 12 := fb_ct_le _ _
theorem ctn_ct (p : Nat → Bool) : ∀ n, ctn p n = fb_ct p n
  | 0 => rfl
  | n + 1 => by
    rw [fb_ct_succ, ← ctn_ct p n]
    show (if p n then ctn p n + 1 else ctn p n) = _
    by_cases h : p n = true
    · rw [if_pos h, if_pos h]
    · rw [if_neg h, if_neg h]; omega
