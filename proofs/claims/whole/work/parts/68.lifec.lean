section LIC2
variable {od n : Nat} {kd te sg wh nu pa : Nat → Nat} {s : Nat × Nat × (Nat → Nat) × (Nat → Nat) × (Nat → Nat)} {q R : Nat → Nat}
theorem livesL {σ : St} {FIN L : Nat × (Nat × Nat × (Nat → Nat) × (Nat → Nat) × (Nat → Nat)) × (Nat → Nat) × (Nat → Nat)} (h : LSt σ od n kd te sg wh nu pa FIN L) (wd : WD n kd te sg wh nu pa) (h0 : L.1 < n → ¬ kd L.1 = 24) (h4 : L.2.2.1 4 = 0) : ∃ σ', iter (fun u : (Int32 × St) => Mo_lives_L32 u.2 u.1) FUEL (nI L.1, σ) = some σ' ∧ MLq σ' od FIN.2.1 FIN.2.2.1 ∧ Fp Alw σ σ' := by
  have hn := wd.1
  have key := iter_ix (body := fun u : (Int32 × St) => Mo_lives_L32 u.2 u.1) (fun m u => Fp Alw σ u.2 ∧ ((∃ X, u.1 = nI X.1 ∧ LSt u.2 od n kd te sg wh nu pa FIN X ∧ (X.1 < n → ¬ kd X.1 = 24) ∧ X.2.2.1 4 = 0 ∧ m = 301 - X.2.2.1 5) ∨ (∃ x, x < n ∧ u.1 = nI x ∧ u.2.1 93 2 = nI n ∧ u.2.1 109 4 = nI 1 ∧ MLq u.2 od FIN.2.1 FIN.2.2.1 ∧ m = 0))) (fun e => MLq e od FIN.2.1 FIN.2.2.1 ∧ Fp Alw σ e) ?_ FUEL (301 - L.2.2.1 5) (nI L.1, σ) ⟨Fp.rf, Or.inl ⟨L, rfl, h, h0, h4, rfl⟩⟩ (fuel (by omega))
  · exact key
  · rintro m ⟨y, u⟩ ⟨hF, hh⟩
    have hF' : Fp Alw σ u := hF
    rcases hh with ⟨X, rfl, hS, hk, hx4, hm⟩ | ⟨x, hx, rfl, e2, e4, hq, hm⟩
    · have hS' : LSt u od n kd te sg wh nu pa FIN X := hS
      have D := hS'.2.2.1
      have hxn := hS'.1.2.2.2.1
      have hx5 := hS'.1.2.2.1
      have hq := hS'.2.1.1
      by_cases z : X.1 < n
      · have k24 := hk z
        by_cases z3 : X.2.2.1 5 = 300
        · left
          have q1 : MLq (wI u 109 4 (nI 1)) od X.2.1 (fset X.2.2.1 4 1) := hq.j (by omega) 1
          have F1 : Fp Alw u (wI u 109 4 (nI 1)) := Fp.wI (A := Alw) (Fp.rf (A := Alw)) (by unfold Alw Alf; omega)
          have st : stp od n kd te sg wh nu pa X = (n, X.2.1, fset X.2.2.1 4 1, X.2.2.2) := by
            unfold stp
            rw [if_neg k24, if_pos (by omega)]
          have e : stp od n kd te sg wh nu pa X = FIN := by
            have := (runL_go (te := te) (sg := sg) (wh := wh) (nu := nu) (f := RF) wd hS'.1 z (Nat.lt_of_le_of_lt (show Mp n kd pa X ≤ 30002 by have := hS'.2.2.2.1 z; omega) RF_ge)).trans hS'.2.2.2.2
            rwa [runL_end (by rw [st]; exact Nat.lt_irrefl n)] at this
          rw [st] at e
          refine ⟨(nI X.1, wI u 109 4 (nI 1)), 0, ?_, ⟨hF'.tr F1, Or.inr ⟨X.1, z, rfl, (wI_ne (by omega)).trans D.n0, wI_s, by rw [← e]; exact q1, rfl⟩⟩, by omega⟩
          show Mo_lives_L32 u (nI X.1) = _
          unfold Mo_lives_L32
          rw [show ix 2 2060 = true from by decide, chk_true, show tn 2 = 2 from rfl, D.n0, if_neg (by rw [le_nI (by omega) (by omega)]; omega), show ix 4 5 = true from by decide, chk_true, show tn 4 = 4 from rfl, hq.2.2.1 4 (by omega), hx4, if_pos (show nI 0 = 0 from rfl), hq.2.1, z3, if_pos (show nI 300 = 300 from rfl), chk_true, bnd_x]
          rfl
        · have h300 : X.2.2.1 5 < 300 := by omega
          by_cases k25 : kd X.1 = 25
          · right
            have st : stp od n kd te sg wh nu pa X = (n, X.2.1, inc X.2.2.1 5, X.2.2.2) := by
              unfold stp
              rw [if_neg k24, if_neg (by omega), if_pos k25]
            have e : stp od n kd te sg wh nu pa X = FIN := by
              have := (runL_go (te := te) (sg := sg) (wh := wh) (nu := nu) (f := RF) wd hS'.1 z (Nat.lt_of_le_of_lt (show Mp n kd pa X ≤ 30002 by have := hS'.2.2.2.1 z; omega) RF_ge)).trans hS'.2.2.2.2
              rwa [runL_end (by rw [st]; exact Nat.lt_irrefl n)] at this
            rw [st] at e
            have q1 : MLq (wI u 92 33 (nI (X.2.2.1 5 + 1))) od X.2.1 (inc X.2.2.1 5) := hq.c _
            have F1 : Fp Alw u (wI u 92 33 (nI (X.2.2.1 5 + 1))) := Fp.wI (A := Alw) (Fp.rf (A := Alw)) (by unfold Alw; omega)
            have dk := D.k z
            rw [if_neg (by omega), k25] at dk
            refine ⟨wI u 92 33 (nI (X.2.2.1 5 + 1)), ?_, by rw [← e]; exact q1, hF'.tr F1⟩
            show Mo_lives_L32 u (nI X.1) = _
            unfold Mo_lives_L32
            rw [show ix 2 2060 = true from by decide, chk_true, show tn 2 = 2 from rfl, D.n0, if_neg (by rw [le_nI (by omega) (by omega)]; omega), show ix 4 5 = true from by decide, chk_true, show tn 4 = 4 from rfl, hq.2.2.1 4 (by omega), hx4, if_pos (show nI 0 = 0 from rfl), hq.2.1, show (300 : Int32) = nI 300 from rfl, if_neg (by rw [eq_nI (by omega) (by omega)]; omega), at0, bnd_x, nI_1, bnd_x, ix_nI (by omega) (by omega), chk_true, tn_nI (show 40 + 6 * X.1 < 2147483648 by omega), show (wI u 92 33 (nI (X.2.2.1 5 + 1))).1 93 (40 + 6 * X.1) = nI (25 - 10) from (wI_ne (by omega)).trans dk, if_pos (by decide)]
          · left
            obtain ⟨τ, t1, t2, t3, t4, t5⟩ := bodyM hS' wd z k24 k25 h300 hx4
            obtain ⟨Y, ω, y1, y2, y3, y4, y5⟩ := behindM t2 wd
            refine ⟨(nI Y.1, ω), 301 - Y.2.2.1 5, ?_, ⟨(hF'.tr t5).tr (y5.mono (fun a i z => by unfold Alw; omega)), Or.inl ⟨Y, rfl, y2, y3, by rw [y4]; exact t4, rfl⟩⟩, by rw [y4, t3]; omega⟩
            show Mo_lives_L32 u (nI X.1) = _
            rw [t1, y1, bd2_s]
      · right
        have e : X = FIN := by have := hS'.2.2.2.2; rwa [runL_end z] at this
        refine ⟨u, ?_, by rw [← e]; exact hq, hF'⟩
        show Mo_lives_L32 u (nI X.1) = _
        unfold Mo_lives_L32
        rw [show ix 2 2060 = true from by decide, chk_true, show tn 2 = 2 from rfl, D.n0, if_pos (by rw [le_nI (by omega) (by omega)]; omega)]
    · right
      have e2' : u.1 93 2 = nI n := e2
      have e4' : u.1 109 4 = nI 1 := e4
      refine ⟨u, ?_, hq, hF'⟩
      show Mo_lives_L32 u (nI x) = _
      unfold Mo_lives_L32
      rw [show ix 2 2060 = true from by decide, chk_true, show tn 2 = 2 from rfl, e2', if_neg (by rw [le_nI (by omega) (by omega)]; omega), show ix 4 5 = true from by decide, chk_true, show tn 4 = 4 from rfl, e4', if_neg (by decide)]
theorem livesM {σ : St} {e : Nat} (h : MVt σ od s) (w : WFt od s) (he : e < 65536) (D : DVm σ 0 n kd te sg wh nu pa) (wd : WD n kd te sg wh nu pa) : ∃ σ', Mo_lives σ (nI e) = some σ' ∧ MLq σ' od (runL od n kd te sg wh nu pa RF (L0 s e)).2.1 (runL od n kd te sg wh nu pa RF (L0 s e)).2.2.1 ∧ Fp Alw σ σ' := by
  obtain ⟨σ2, hσ2⟩ : ∃ σ2, σ2 = wI (wI σ 92 32 (nI e)) 92 33 0 := ⟨_, rfl⟩
  have F2 : Fp Alw σ σ2 := by rw [hσ2]; exact Fp.wI (A := Alw) (Fp.wI (A := Alw) (Fp.rf (A := Alw)) (by unfold Alw Alf; omega)) (by unfold Alw; omega)
  have a1 : σ2.1 92 32 = nI e := by rw [hσ2, wI_ne (by omega), wI_s]
  have a2 : σ2.1 92 33 = nI 0 := by rw [hσ2, wI_s]; rfl
  have key := iter_cnt (body := fun u : (Int32 × St) => Mo_lives_L12 u.2 u.1) (fun k u => u.1 = nI k ∧ Fp (fun a i => a = 109) σ2 u.2 ∧ ∀ j, j < k → u.2.1 109 j = nI 0) (fun x => Fp (fun a i => a = 109) σ2 x ∧ ∀ j, j < 5 → x.1 109 j = nI 0) (lo := 0) (hi := 5) (n := FUEL) (by omega) (fuel (by omega)) ?_ ?_ (s := (0, σ2)) ⟨rfl, Fp.rf, fun j hj => by omega⟩
  · obtain ⟨τ, b1, b2, b3⟩ := key
    have Fτ : Fp Alw σ τ := F2.tr (b2.mono (fun a i z => by unfold Alw Alf; omega))
    have c1 : τ.1 92 32 = nI e := (b2.i (by omega)).trans a1
    have c2 : τ.1 92 33 = nI 0 := (b2.i (by omega)).trans a2
    have Fm : ∀ i, ¬ i = 0 → True := fun _ _ => trivial
    have hmv : MVt τ od s := by
      have F9 : Fp (fun a i => a = 92 ∨ a = 109) σ τ := by
        have f1 : Fp (fun a i => a = 92 ∨ a = 109) σ σ2 := by rw [hσ2]; exact Fp.wI (A := fun a i => a = 92 ∨ a = 109) (Fp.wI (A := fun a i => a = 92 ∨ a = 109) (Fp.rf (A := fun a i => a = 92 ∨ a = 109)) (Or.inl rfl)) (Or.inl rfl)
        exact f1.tr (b2.mono (fun a i z => Or.inr z))
      exact MV.keep h (F9.sm (fun b i q1 q2 q => by omega))
    have hq : MLq τ od s (fset (fun _ => 0) 6 e) := by
      refine ⟨hmv, ?_, fun j hj => ?_, ?_⟩
      · rw [fset_2 _ _ (by omega)]; exact c2
      · rw [fset_2 _ _ (by omega)]; exact b3 j hj
      · rw [fset_1]; exact c1
    have hI := L0_I (n := n) (kd := kd) (pa := pa) w he
    have hS : LSt τ od n kd te sg wh nu pa (runL od n kd te sg wh nu pa RF (L0 s e)) (L0 s e) := ⟨hI, ⟨hq, fun j hj ho hk => by have ho' : opn kd pa 0 j := ho; unfold opn at ho'; omega⟩, D.keepF Fτ (fun i z => by unfold Alw Alf at z; omega), fun _ => by rw [L0_M]; omega, rfl⟩
    obtain ⟨ω, t1, t2, t3⟩ := livesL hS wd (fun z1 z2 => by have := (wd.2 0 z1).2.2.2.2.2.2.2.2.2 z2; omega) (by show fset (fun _ => 0) 6 e 4 = 0; rw [fset_2 _ _ (by omega)])
    refine ⟨ω, ?_, t2, Fτ.tr t3⟩
    unfold Mo_lives
    rw [bnd_x, bnd_x, ← hσ2, b1, bd_s]
    exact t1
  · rintro k ⟨x, u⟩ _ hk ⟨rfl, h2, h3⟩
    have h2' : Fp (fun a i => a = 109) σ2 u := h2
    have h3' : ∀ j, j < k → u.1 109 j = nI 0 := h3
    refine ⟨(nI (k + 1), wI u 109 k 0), ?_, rfl, Fp.wI (A := fun a i => a = 109) h2' (show (109 : Nat) = 109 from rfl), fun j hj => ?_⟩
    · show Mo_lives_L12 u (nI k) = _
      unfold Mo_lives_L12
      rw [show (5 : Int32) = nI 5 from rfl, if_neg (by rw [le_nI (by omega) (by omega)]; omega), ix_nI (by omega) (by omega), chk_true, tn_nI (by omega), bnd_x, nI_1, bnd_x]
    · show (wI u 109 k 0).1 109 j = nI 0
      by_cases y : j = k
      · rw [y, wI_s]; rfl
      · rw [wI_ne (by omega)]; exact h3' j (by omega)
  · rintro ⟨x, u⟩ ⟨rfl, h2, h3⟩
    refine ⟨u, ?_, h2, h3⟩
    show Mo_lives_L12 u (nI 5) = _
    unfold Mo_lives_L12
    rw [if_pos (by decide)]
end LIC2
