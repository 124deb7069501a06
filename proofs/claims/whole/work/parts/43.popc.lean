theorem lt1 {e : Nat} (h0 : e ≤ 8) : e < 256 := by omega
theorem lt2 {e f : Nat} (h0 : e ≤ 8) (h1 : f ≤ 8) : e + f < 256 := by omega
theorem lt4 {e f g h : Nat} (h0 : e ≤ 8) (h1 : f ≤ 8) (h2 : g ≤ 8) (h3 : h ≤ 8) : e + f + (g + h) < 256 := by omega
theorem md8 {e0 e1 e2 e3 e4 e5 e6 e7 v : Nat} (h0 : e0 ≤ 8) (h1 : e1 ≤ 8) (h2 : e2 ≤ 8) (h3 : e3 ≤ 8) (h4 : e4 ≤ 8) (h5 : e5 ≤ 8) (h6 : e6 ≤ 8) (h7 : e7 ≤ 8) : (e0 + e1 + (e2 + e3) + (e4 + e5 + (e6 + e7)) + 256 * v) % 128 = e0 + e1 + e2 + e3 + e4 + e5 + e6 + e7 := by omega
theorem pcbd {x y z t : Nat} (hb : x ≤ 578721382704613384) (hy : y = x + x / 256) (hz : z = y + y / 65536) (ht : t = z + z / 4294967296) : y < 2 ^ 64 ∧ z < 2 ^ 64 ∧ t < 2 ^ 64 := by
  have : (2 : Nat) ^ 64 = 18446744073709551616 := rfl
  have h1 := Nat.div_le_self x 256
  have h2 := Nat.div_le_self y 65536
  have h3 := Nat.div_le_self z 4294967296
  generalize x / 256 = a at hy h1
  generalize y / 65536 = b at hz h2
  generalize z / 4294967296 = c at ht h3
  omega
theorem st2 {a b e f u v : Nat} (h1 : a = e + 256 * u) (h2 : b = f + 256 * v) : a + b = (e + f) + 256 * (u + v) := by omega
theorem dv256 {a e u : Nat} (h : a = e + 256 * u) (he : e < 256) : a / 256 = u := by omega
theorem pc_sum {e0 e1 e2 e3 e4 e5 e6 e7 u1 u2 u3 u4 u5 u6 u7 u8 x : Nat} (h0 : e0 ≤ 8) (h1 : e1 ≤ 8) (h2 : e2 ≤ 8) (h3 : e3 ≤ 8) (h4 : e4 ≤ 8) (h5 : e5 ≤ 8) (h6 : e6 ≤ 8) (h7 : e7 ≤ 8) (k0 : x = e0 + 256 * u1) (k1 : u1 = e1 + 256 * u2) (k2 : u2 = e2 + 256 * u3) (k3 : u3 = e3 + 256 * u4) (k4 : u4 = e4 + 256 * u5) (k5 : u5 = e5 + 256 * u6) (k6 : u6 = e6 + 256 * u7) (k7 : u7 = e7 + 256 * u8) (hb : x ≤ 578721382704613384) {y z t : Nat} (hy : y = x + x / 256) (hz : z = y + y / 65536) (ht : t = z + z / 4294967296) : t % 128 = e0 + e1 + e2 + e3 + e4 + e5 + e6 + e7 ∧ y < 2 ^ 64 ∧ z < 2 ^ 64 ∧ t < 2 ^ 64 := by
  have a1 : y = x + u1 := by rw [hy, dv256 k0 (lt1 h0)]
  have b0 := st2 k0 k1
  have b1 := st2 k1 k2
  have b2 := st2 k2 k3
  have b3 := st2 k3 k4
  have b4 := st2 k4 k5
  have b5 := st2 k5 k6
  have b6 := st2 k6 k7
  have a2 : y / 65536 = u2 + u3 := by
    rw [show 65536 = 256 * 256 from rfl, ← Nat.div_div_eq_div_mul, a1, dv256 b0 (lt2 h0 h1), dv256 b1 (lt2 h1 h2)]
  have a3 : z = (x + u1) + (u2 + u3) := by rw [hz, a2, a1]
  have c0 := st2 b0 b2
  have c1 := st2 b1 b3
  have c2 := st2 b2 b4
  have c3 := st2 b3 b5
  have c4 := st2 b4 b6
  have a4 : z / 4294967296 = (u4 + u5) + (u6 + u7) := by
    rw [show 4294967296 = 256 * 256 * 256 * 256 from rfl, ← Nat.div_div_eq_div_mul, ← Nat.div_div_eq_div_mul, ← Nat.div_div_eq_div_mul, a3, dv256 c0 (lt4 h0 h1 h2 h3), dv256 c1 (lt4 h1 h2 h3 h4), dv256 c2 (lt4 h2 h3 h4 h5), dv256 c3 (lt4 h3 h4 h5 h6)]
  have a5 : t = (x + u1) + (u2 + u3) + ((u4 + u5) + (u6 + u7)) := by rw [ht, a4, a3]
  have d0 := st2 c0 c4
  refine ⟨?_, pcbd hb hy hz ht⟩
  rw [a5, d0]
  exact md8 h0 h1 h2 h3 h4 h5 h6 h7
