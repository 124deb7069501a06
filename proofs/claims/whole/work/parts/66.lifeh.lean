section FOLh
variable {od n : Nat} {kd te sg wh nu pa : Nat → Nat} {a0 a1 : Nat} {s : Nat × Nat × (Nat → Nat) × (Nat → Nat) × (Nat → Nat)} {q R : Nat → Nat}
def L0 (s : Nat × Nat × (Nat → Nat) × (Nat → Nat) × (Nat → Nat)) (e : Nat) : Nat × (Nat × Nat × (Nat → Nat) × (Nat → Nat) × (Nat → Nat)) × (Nat → Nat) × (Nat → Nat) := (0, s, fset (fun _ => 0) 6 e, fun _ => 0)
theorem L0_I {e : Nat} (w : WFt od s) (he : e < 65536) : PI od n kd pa (L0 s e) := ⟨w, by show fset (fun _ => 0) 6 e 6 < 65536; rw [fset_1]; exact he, by show fset (fun _ => 0) 6 e 5 ≤ 300; rw [fset_2 _ _ (by omega)]; omega, Nat.zero_le _, fun j hj ho hk => by have ho' : opn kd pa 0 j := ho; unfold opn at ho'; omega⟩
theorem L0_M {e : Nat} : Mp n kd pa (L0 s e) = 30000 := by
  have h1 : fset (fun _ => 0) 6 e 5 = 0 := fset_2 _ _ (by omega)
  have h2 : fb_sm (pot kd pa (fun _ => 0) 0) n = 0 := by
    rw [fb_sm_cong (g := fun _ => 0) (fun j _ => by
      unfold pot
      rw [if_neg (fun y => by have := (opb_n kd pa 0 j).mp y; unfold opn at this; omega)])]
    have := fb_sm_const 0 n
    rwa [Nat.mul_zero] at this
  show (300 - fset (fun _ => 0) 6 e 5) * 100 + fb_sm (pot kd pa (fun _ => 0) 0) n = 30000
  rw [h1, h2]
def RF : Nat := 40000
theorem RF_ge : 30002 < RF := by decide
theorem runC {σ : St} {e : Nat} (h : CV σ a1 s.1 od s.2.1 s.2.2.1 s.2.2.2.1 s.2.2.2.2) (hA : LA a0 a1) (w : WFt od s) (he : e < 65536) (D : DVc σ 15 n kd te sg wh nu pa) (wd : WD n kd te sg wh nu pa) : ∃ σ', Li_run σ a0 a1 15 (nI e) = some σ' ∧ CQ σ' a0 a1 od (runL od n kd te sg wh nu pa RF (L0 s e)).2.1 (runL od n kd te sg wh nu pa RF (L0 s e)).2.2.1 ∧ σ'.1 a0 1 = 1 := by
  have hn := wd.1
  obtain ⟨σ8, h8⟩ : ∃ σ8, σ8 = wI (wI (wI (wI (wI (wI (wI (wI σ a0 1 1) a0 2 0) a0 3 0) a0 4 0) a0 5 0) a0 6 0) a0 7 0) a0 8 (nI e) := ⟨_, rfl⟩
  have F8 : Fp (fun a i => a = a0) σ σ8 := by rw [h8]; exact Fp.wI (A := fun a i => a = a0) (Fp.wI (A := fun a i => a = a0) (Fp.wI (A := fun a i => a = a0) (Fp.wI (A := fun a i => a = a0) (Fp.wI (A := fun a i => a = a0) (Fp.wI (A := fun a i => a = a0) (Fp.wI (A := fun a i => a = a0) (Fp.wI (A := fun a i => a = a0) (Fp.rf) rfl) rfl) rfl) rfl) rfl) rfl) rfl) rfl
  have hcv : CV σ8 a1 s.1 od s.2.1 s.2.2.1 s.2.2.2.1 s.2.2.2.2 := h.keep (F8.sm (fun b i z1 z2 z => by unfold LA at hA; omega))
  have hcq : CQ σ8 a0 a1 od (L0 s e).2.1 (L0 s e).2.2.1 := by
    refine ⟨hcv, ?_, ?_, ?_, ?_, ?_, ?_, ?_⟩
    · show σ8.1 a0 2 = nI (fset (fun _ => 0) 6 e 5)
      rw [fset_2 _ _ (by omega), h8, wI_ne (by omega), wI_ne (by omega), wI_ne (by omega), wI_ne (by omega), wI_ne (by omega), wI_ne (by omega), wI_s]; rfl
    · show σ8.1 a0 3 = nI (fset (fun _ => 0) 6 e 0)
      rw [fset_2 _ _ (by omega), h8, wI_ne (by omega), wI_ne (by omega), wI_ne (by omega), wI_ne (by omega), wI_ne (by omega), wI_s]; rfl
    · show σ8.1 a0 4 = nI (fset (fun _ => 0) 6 e 1)
      rw [fset_2 _ _ (by omega), h8, wI_ne (by omega), wI_ne (by omega), wI_ne (by omega), wI_ne (by omega), wI_s]; rfl
    · show σ8.1 a0 5 = nI (fset (fun _ => 0) 6 e 2)
      rw [fset_2 _ _ (by omega), h8, wI_ne (by omega), wI_ne (by omega), wI_ne (by omega), wI_s]; rfl
    · show σ8.1 a0 6 = nI (fset (fun _ => 0) 6 e 3)
      rw [fset_2 _ _ (by omega), h8, wI_ne (by omega), wI_ne (by omega), wI_s]; rfl
    · show σ8.1 a0 7 = nI (fset (fun _ => 0) 6 e 4)
      rw [fset_2 _ _ (by omega), h8, wI_ne (by omega), wI_s]; rfl
    · show σ8.1 a0 8 = nI (fset (fun _ => 0) 6 e 6)
      rw [fset_1, h8, wI_s]
  have h1c : σ8.1 a0 1 = 1 := by rw [h8, wI_ne (by omega), wI_ne (by omega), wI_ne (by omega), wI_ne (by omega), wI_ne (by omega), wI_ne (by omega), wI_ne (by omega), wI_s]
  have D8 : DVc σ8 15 n kd te sg wh nu pa := D.keepF F8 (fun a i z => by unfold LA at hA; omega)
  obtain ⟨FIN, hF⟩ : ∃ FIN, FIN = runL od n kd te sg wh nu pa RF (L0 s e) := ⟨_, rfl⟩
  have key := iter_inv (body := fun u : (Int32 × Int32 × St) => Li_run_L46 a0 a1 15 u.2.2 u.1 u.2.1) (fun u => ∃ L k, u.1 = nI L.1 ∧ u.2.1 = nI k ∧ PI od n kd pa L ∧ CL u.2.2 a0 a1 od n kd pa L ∧ DVc u.2.2 15 n kd te sg wh nu pa ∧ u.2.2.1 a0 1 = 1 ∧ (L.1 < n → Mp n kd pa L + k ≤ 30000) ∧ k ≤ 30002 ∧ runL od n kd te sg wh nu pa RF L = FIN) (fun e => CQ e a0 a1 od FIN.2.1 FIN.2.2.1 ∧ e.1 a0 1 = 1) (fun u => 40000 - tn u.2.1) ?_ FUEL (0, 0, σ8) ⟨L0 s e, 0, rfl, rfl, L0_I w he, ⟨hcq, fun j hj ho hk => by have ho' : opn kd pa 0 j := ho; unfold opn at ho'; omega⟩, D8, h1c, fun _ => by rw [L0_M]; omega, by omega, hF.symm⟩ (fuel (by omega))
  · obtain ⟨ω, b1, b2, b3⟩ := key
    refine ⟨ω, ?_, by rw [← hF]; exact b2, b3⟩
    unfold Li_run
    rw [bnd_x, bnd_x, bnd_x, bnd_x, bnd_x, bnd_x, bnd_x, bnd_x, ← h8, b1, bd_s]
  · rintro ⟨x, y, u⟩ ⟨L, k, rfl, rfl, hI, hC, hD, h1, hM, hk, hR⟩
    have hD' : DVc u 15 n kd te sg wh nu pa := hD
    have hC' : CL u a0 a1 od n kd pa L := hC
    have h1' : u.1 a0 1 = 1 := h1
    have hln := hI.2.2.2.1
    by_cases z : L.1 < n
    · left
      have hMk := hM z
      obtain ⟨τ, t1, t2⟩ := followC hC' hA hI hD' wd z
      obtain ⟨s1, s2⟩ := stp_n (te := te) (sg := sg) (wh := wh) (nu := nu) wd hI z
      have Fτ : Fp (fun a i => (a1 ≤ a ∧ a ≤ a1 + 3) ∨ (a = a0 ∧ ¬ i = 1) ∨ a = a0 + 1 ∨ (31 ≤ a ∧ a ≤ 33)) u τ := (fp_Li_follow (A := fun a i => (a1 ≤ a ∧ a ≤ a1 + 3) ∨ (a = a0 ∧ ¬ i = 1) ∨ a = a0 + 1 ∨ (31 ≤ a ∧ a ≤ 33)) Fp.rf (by omega) (by omega) (fun i => by omega) (fun i => by omega) (by omega) (by omega) (by omega) (by omega) (by omega) (by omega) (by omega) (fun i => by omega) (by omega) (by omega) (fun i => by omega) (fun i => by omega) (fun i => by omega) _ t1).2
      refine ⟨(nI (stp od n kd te sg wh nu pa L).1, nI (k + 1), τ), ?_, ⟨stp od n kd te sg wh nu pa L, k + 1, rfl, rfl, s1, t2, hD'.keepF Fτ (fun a i z => by unfold LA at hA; omega), (Fτ.i (by unfold LA at hA; omega)).trans h1', fun y => by have := s2 y; omega, by omega, (runL_go wd hI z (Nat.lt_of_le_of_lt (show Mp n kd pa L ≤ 30002 by omega) RF_ge)).trans hR⟩, ?_⟩
      · show Li_run_L46 a0 a1 15 u (nI L.1) (nI k) = _
        unfold Li_run_L46
        rw [show (1000000 : Int32) = nI 1000000 from rfl, if_neg (by rw [le_nI (by omega) (by omega)]; omega), hD'.2.1, if_neg (by rw [le_nI (by omega) (by omega)]; omega), t1, bd2_s, bnd_x, nI_1]
      · show 40000 - tn (nI (k + 1)) < 40000 - tn (nI k)
        rw [tn_nI (by omega), tn_nI (by omega)]
        omega
    · right
      refine ⟨u, ?_, ?_, h1'⟩
      · show Li_run_L46 a0 a1 15 u (nI L.1) (nI k) = _
        unfold Li_run_L46
        rw [show (1000000 : Int32) = nI 1000000 from rfl, if_neg (by rw [le_nI (by omega) (by omega)]; omega), hD'.2.1, if_pos (by rw [le_nI (by omega) (by omega)]; omega)]
      · rw [runL_end z] at hR
        rw [← hR]
        exact hC'.1
end FOLh
