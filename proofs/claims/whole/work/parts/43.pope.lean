theorem bcL_l (x : Int64) : JL_bitCount_95d88 x = some (nI (fb_ct (lb x) 64)) := by
  obtain ⟨n, hn, rfl⟩ := wb_of x
  rw [bcL_n hn]
  congr 2
  exact fb_ct_cong (fun j hj => (lb_N hj).symm)
def ct12 (n : Nat) : Nat := fb_ct (fun j => n.testBit j) 12
theorem pcI_sum {e0 e1 e2 e3 : Nat} (h0 : e0 ≤ 8) (h1 : e1 ≤ 8) (h2 : e2 ≤ 8) (h3 : e3 ≤ 8) {x y z : Nat} (hx : x = e0 + 256 * e1 + 65536 * e2 + 16777216 * e3) (hy : y = x + x / 256) (hz : z = y + y / 65536) : z % 64 = e0 + e1 + e2 + e3 ∧ y < 4294967296 ∧ z < 4294967296 := by
  have a1 : x / 256 = e1 + 256 * e2 + 65536 * e3 := by omega
  have a2 : y / 65536 = (e2 + e3) + 256 * e3 := by omega
  refine ⟨by omega, by omega, by omega⟩
