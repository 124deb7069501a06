theorem by_feed {σ : St} (h : ByT σ) (p1 p2 p3 p4 p5 : Int32) : OK (fun x : (Int32 × St) => ByT x.2) (RC_feed σ p1 p2 p3 p4 p5) := by
  unfold RC_feed
  refine ok_ite (fun _ => ?_) (fun _ => ok_some h)
  exact ok_bd (by_append h p1) (fun s1 h1 => ok_bd (by_append h1 p2) (fun s2 h2 => ok_bd (by_append h2 p3) (fun s3 h3 => ok_bd (by_append h3 p4) (fun s4 h4 => ok_bd (by_append h4 p5) (fun s5 h5 => ok_some h5)))))
/-- a byte as it lies in row 3: under 128 it is what the reference reads, or it is negative and the reference reads 128 or more -/
theorem byte_u (x : Int32) (h : vp_nar .byte x = x) : (0 ≤ x.toInt ∧ x.toInt < 128 ∧ (x &&& 255) = x) ∨ (x.toInt < 0 ∧ 128 ≤ (x &&& 255).toInt ∧ (x &&& 255).toInt < 256) := by
  have h' : x.toInt8.toInt32 = x := h
  rw [← h']
  generalize x.toInt8 = y
  revert y
  have key : ∀ b : BitVec 8, (0 ≤ (Int8.ofBitVec b).toInt32.toInt ∧ (Int8.ofBitVec b).toInt32.toInt < 128 ∧ ((Int8.ofBitVec b).toInt32 &&& 255) = (Int8.ofBitVec b).toInt32) ∨ ((Int8.ofBitVec b).toInt32.toInt < 0 ∧ 128 ≤ ((Int8.ofBitVec b).toInt32 &&& 255).toInt ∧ ((Int8.ofBitVec b).toInt32 &&& 255).toInt < 256) := by decide +kernel
  exact fun y => key y.toBitVec
