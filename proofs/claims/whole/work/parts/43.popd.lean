theorem bcL_n {n : Nat} (hn64 : n < 2 ^ 64) : JL_bitCount_95d88 (lN n) = some (nI (fb_ct (fun j => n.testBit j) 64)) := by
  have e64 : (2 : Nat) ^ 64 = 18446744073709551616 := rfl
  obtain ⟨b, hb, rfl⟩ := hn_of8 hn64
  have m1 : hn (fun _ => 85) 8 = 6148914691236517205 := by decide +kernel
  have m2 : hn (fun _ => 51) 8 = 3689348814741910323 := by decide +kernel
  have m3 : hn (fun _ => 15) 8 = 1085102592571150095 := by decide +kernel
  have s1 : ((lN (hn b 8)).toUInt64 >>> ((1 : Int32).toInt64.toUInt64 &&& Int64.toUInt64 63)).toInt64 = lN (hn b 8 / 2) := wb_shr (k := 1) hn64 (by omega)
  have hC : hn b 8 - (hn b 8 / 2 &&& 6148914691236517205) = hn (fun i => pcC (b i)) 8 := by
    rw [← m1, hn_1 8 b (fun i _ => hb i), hn_sub (fun i _ => (pc_1 _ (hb i)).1)]
    rfl
  have lC : hn (fun i => pcC (b i)) 8 < 2 ^ 64 := hn_lt8 (fun i => (pc_1 _ (hb i)).2.1)
  have hle : hn b 8 / 2 &&& 6148914691236517205 ≤ hn b 8 := by
    rw [← m1, hn_1 8 b (fun i _ => hb i)]
    exact hn_le (fun i _ => (pc_1 _ (hb i)).1)
  have s2 : ((lN (hn (fun i => pcC (b i)) 8)).toUInt64 >>> ((2 : Int32).toInt64.toUInt64 &&& Int64.toUInt64 63)).toInt64 = lN (hn (fun i => pcC (b i)) 8 / 4) := wb_shr (k := 2) lC (by omega)
  have hD : (hn (fun i => pcC (b i)) 8 &&& 3689348814741910323) + (hn (fun i => pcC (b i)) 8 / 4 &&& 3689348814741910323) = hn (fun i => pcD (b i)) 8 := by
    rw [← m2, hn_2 8 _ (fun i _ => (pc_1 _ (hb i)).2.1), hn_and 51 (by omega) 8 _ (fun i _ => (pc_1 _ (hb i)).2.1), hn_add]
    rfl
  have lD : hn (fun i => pcD (b i)) 8 < 2 ^ 64 := hn_lt8 (fun i => (pc_1 _ (hb i)).2.2.1)
  have s3 : ((lN (hn (fun i => pcD (b i)) 8)).toUInt64 >>> ((4 : Int32).toInt64.toUInt64 &&& Int64.toUInt64 63)).toInt64 = lN (hn (fun i => pcD (b i)) 8 / 16) := wb_shr (k := 4) lD (by omega)
  have hE : (hn (fun i => pcD (b i)) 8 + hn (fun i => pcD (b i)) 8 / 16) &&& 1085102592571150095 = hn (fun i => pcE (b i)) 8 := by
    rw [← m3, hn_3 8 _ (fun i _ => ⟨(pc_1 _ (hb i)).2.2.2.1, (pc_1 _ (hb i)).2.2.2.2.1⟩)]
    rfl
  have he : ∀ i, pcE (b i) ≤ 8 := fun i => (pc_1 _ (hb i)).2.2.2.2.2.1
  have kk : ∀ k (f : Nat → Nat), hn f (k + 1) = f 0 + 256 * hn (fun i => f (i + 1)) k := fun k f => by rw [hn_s, Nat.add_comm]
  have hxb : hn (fun i => pcE (b i)) 8 ≤ 578721382704613384 := by
    have q1 : hn (fun i => pcE (b i)) 8 ≤ hn (fun _ => 8) 8 := hn_le (fun i _ => he i)
    have q2 : hn (fun _ => 8) 8 = 578721382704613384 := by decide +kernel
    rw [q2] at q1
    exact q1
  obtain ⟨r1, r2, r3, r4⟩ := pc_sum (he 0) (he 1) (he 2) (he 3) (he 4) (he 5) (he 6) (he 7) (kk 7 (fun i => pcE (b i))) (kk 6 (fun i => pcE (b (i + 1)))) (kk 5 (fun i => pcE (b (i + 2)))) (kk 4 (fun i => pcE (b (i + 3)))) (kk 3 (fun i => pcE (b (i + 4)))) (kk 2 (fun i => pcE (b (i + 5)))) (kk 1 (fun i => pcE (b (i + 6)))) (kk 0 (fun i => pcE (b (i + 7)))) hxb rfl rfl rfl
  have hct := hn_ct 8 b (fun i _ => hb i)
  have hsm : fb_sm (fun i => pcE (b i)) 8 = pcE (b 0) + pcE (b 1) + pcE (b 2) + pcE (b 3) + pcE (b 4) + pcE (b 5) + pcE (b 6) + pcE (b 7) := by
    show 0 + pcE (b 0) + pcE (b 1) + pcE (b 2) + pcE (b 3) + pcE (b 4) + pcE (b 5) + pcE (b 6) + pcE (b 7) = _
    omega
  have hlt : hn (fun i => pcD (b i)) 8 + hn (fun i => pcD (b i)) 8 / 16 < 2 ^ 64 := by
    have q1 : hn (fun i => pcD (b i)) 8 ≤ hn (fun _ => 68) 8 := hn_le (fun i _ => by have := (pc_1 _ (hb i)).2.2.2; show pcD (b i) ≤ 68; omega)
    have q2 : hn (fun _ => 68) 8 = 4919131752989213764 := by decide +kernel
    omega
  have lE : hn (fun i => pcE (b i)) 8 < 2 ^ 64 := hn_lt8 (fun i => by have := he i; show pcE (b i) < 256; omega)
  generalize hn (fun i => pcE (b i)) 8 = X at hE r1 r2 r3 r4 lE
  have s4 : ((lN X).toUInt64 >>> ((8 : Int32).toInt64.toUInt64 &&& Int64.toUInt64 63)).toInt64 = lN (X / 256) := wb_shr (k := 8) lE (by omega)
  have s5 : ((lN (X + X / 256)).toUInt64 >>> ((16 : Int32).toInt64.toUInt64 &&& Int64.toUInt64 63)).toInt64 = lN ((X + X / 256) / 65536) := wb_shr (k := 16) r2 (by omega)
  have s6 : ((lN (X + X / 256 + (X + X / 256) / 65536)).toUInt64 >>> ((32 : Int32).toInt64.toUInt64 &&& Int64.toUInt64 63)).toInt64 = lN ((X + X / 256 + (X + X / 256) / 65536) / 4294967296) := wb_shr (k := 32) r3 (by omega)
  have k1 : (6148914691236517205 : Int64) = lN 6148914691236517205 := rfl
  have k2 : (3689348814741910323 : Int64) = lN 3689348814741910323 := rfl
  have k3 : (1085102592571150095 : Int64) = lN 1085102592571150095 := rfl
  unfold JL_bitCount_95d88
  simp only [bnd_x]
  rw [s1, k1, fb_andL, lN_sub hle, hC, s2, k2, fb_andL, fb_andL, lN_add, hD, s3, lN_add, k3, fb_andL, hE, s4, lN_add, s5, lN_add, s6, lN_add, lN_i, show (127 : Int32) = nI (2 ^ 7 - 1) from rfl, fa_mask]
  rw [show (2 : Nat) ^ 7 = 128 from rfl, r1, ← hsm, ← hct]
