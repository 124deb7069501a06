theorem bcI_g {n : Nat} (hn32 : n < 4294967296) : JI_bitCount_0f7a4 (nI n) = some (nI (fb_ct (fun j => n.testBit j) 32)) := by
  obtain ⟨b, hb, rfl⟩ := hn_of4 hn32
  have m1 : hn (fun _ => 85) 4 = 1431655765 := by decide +kernel
  have m2 : hn (fun _ => 51) 4 = 858993459 := by decide +kernel
  have m3 : hn (fun _ => 15) 4 = 252645135 := by decide +kernel
  have s1 : ((nI (hn b 4)).toUInt32 >>> ((1 : Int32).toUInt32 &&& Int32.toUInt32 31)).toInt32 = nI (hn b 4 / 2) := pk_ushrN hn32 1 1 (by decide)
  have hC : hn b 4 - (hn b 4 / 2 &&& 1431655765) = hn (fun i => pcC (b i)) 4 := by
    rw [← m1, hn_1 4 b (fun i _ => hb i), hn_sub (fun i _ => (pc_1 _ (hb i)).1)]
    rfl
  have lC : hn (fun i => pcC (b i)) 4 < 4294967296 := hn_lt4 (fun i => (pc_1 _ (hb i)).2.1)
  have hle : hn b 4 / 2 &&& 1431655765 ≤ hn b 4 := by
    rw [← m1, hn_1 4 b (fun i _ => hb i)]
    exact hn_le (fun i _ => (pc_1 _ (hb i)).1)
  have s2 : ((nI (hn (fun i => pcC (b i)) 4)).toUInt32 >>> ((2 : Int32).toUInt32 &&& Int32.toUInt32 31)).toInt32 = nI (hn (fun i => pcC (b i)) 4 / 4) := pk_ushrN lC 2 2 (by decide)
  have hD : (hn (fun i => pcC (b i)) 4 &&& 858993459) + (hn (fun i => pcC (b i)) 4 / 4 &&& 858993459) = hn (fun i => pcD (b i)) 4 := by
    rw [← m2, hn_2 4 _ (fun i _ => (pc_1 _ (hb i)).2.1), hn_and 51 (by omega) 4 _ (fun i _ => (pc_1 _ (hb i)).2.1), hn_add]
    rfl
  have lD : hn (fun i => pcD (b i)) 4 < 4294967296 := hn_lt4 (fun i => (pc_1 _ (hb i)).2.2.1)
  have s3 : ((nI (hn (fun i => pcD (b i)) 4)).toUInt32 >>> ((4 : Int32).toUInt32 &&& Int32.toUInt32 31)).toInt32 = nI (hn (fun i => pcD (b i)) 4 / 16) := pk_ushrN lD 4 4 (by decide)
  have hE : (hn (fun i => pcD (b i)) 4 + hn (fun i => pcD (b i)) 4 / 16) &&& 252645135 = hn (fun i => pcE (b i)) 4 := by
    rw [← m3, hn_3 4 _ (fun i _ => ⟨(pc_1 _ (hb i)).2.2.2.1, (pc_1 _ (hb i)).2.2.2.2.1⟩)]
    rfl
  have he : ∀ i, pcE (b i) ≤ 8 := fun i => (pc_1 _ (hb i)).2.2.2.2.2.1
  have hx : hn (fun i => pcE (b i)) 4 = pcE (b 0) + 256 * pcE (b 1) + 65536 * pcE (b 2) + 16777216 * pcE (b 3) := by
    rw [hn_s, hn_s, hn_s, hn_s, show ∀ b, hn b 0 = 0 from fun _ => rfl]
    simp only [Nat.zero_add, Nat.reduceAdd]
    omega
  obtain ⟨r1, r2, r3⟩ := pcI_sum (he 0) (he 1) (he 2) (he 3) hx rfl rfl
  have hct := hn_ct 4 b (fun i _ => hb i)
  have hsm : fb_sm (fun i => pcE (b i)) 4 = pcE (b 0) + pcE (b 1) + pcE (b 2) + pcE (b 3) := by
    show 0 + pcE (b 0) + pcE (b 1) + pcE (b 2) + pcE (b 3) = _
    omega
  have lE : hn (fun i => pcE (b i)) 4 < 4294967296 := hn_lt4 (fun i => by have := he i; show pcE (b i) < 256; omega)
  generalize hn (fun i => pcE (b i)) 4 = X at hE r1 r2 r3 lE
  have s4 : ((nI X).toUInt32 >>> ((8 : Int32).toUInt32 &&& Int32.toUInt32 31)).toInt32 = nI (X / 256) := pk_ushrN lE 8 8 (by decide)
  have s5 : ((nI (X + X / 256)).toUInt32 >>> ((16 : Int32).toUInt32 &&& Int32.toUInt32 31)).toInt32 = nI ((X + X / 256) / 65536) := pk_ushrN r2 16 16 (by decide)
  have k1 : (1431655765 : Int32) = nI 1431655765 := rfl
  have k2 : (858993459 : Int32) = nI 858993459 := rfl
  have k3 : (252645135 : Int32) = nI 252645135 := rfl
  unfold JI_bitCount_0f7a4
  simp only [bnd_x]
  rw [s1, k1, fa_and, sub_nI hle, hC, s2, k2, fa_and, fa_and, nI_add, hD, s3, nI_add, k3, fa_and, hE, s4, nI_add, s5, nI_add, show (63 : Int32) = nI (2 ^ 6 - 1) from rfl, fa_mask]
  rw [show (2 : Nat) ^ 6 = 64 from rfl, r1, ← hsm, ← hct]
