section FOLf
variable {od n : Nat} {kd te sg wh nu pa : Nat → Nat} {a0 a1 : Nat} {s : Nat × Nat × (Nat → Nat) × (Nat → Nat) × (Nat → Nat)} {q R : Nat → Nat}
theorem folFin {σ3 : St} {t : Nat} (hA : LA a0 a1) (wd : WD n kd te sg wh nu pa) (ht' : t < n) (hr3 : ∀ j, j < n → opn kd pa t j → kd j = 23 → σ3.1 (a0 + 1) j = nI (R j)) {q0 : Nat} {b : Bool} {τ : St} {s' : Nat × Nat × (Nat → Nat) × (Nat → Nat) × (Nat → Nat)} {q' : Nat → Nat} (hc : CQ τ a0 a1 od s' q') (h0 : q' 0 = q0) (hf : ∀ j, τ.1 (a0 + 1) j = σ3.1 (a0 + 1) j) (n19 : ¬ kd t = 19) (n23 : ¬ kd t = 23) (k24 : ¬ kd t = 24) : ∃ σ', FWE τ a0 t (nI q0) (if b = true then (1 : Int32) else 0) = some (nI (t + 1), σ') ∧ CL σ' a0 a1 od n kd pa (t + 1, s', (if b = true then q' else inc q' 0), R) := by
  have rr : ∀ (v : Int32), ∀ j, j < n → opn kd pa (t + 1) j → kd j = 23 → (wI τ a0 3 v).1 (a0 + 1) j = nI (R j) := fun v j hj ho hk => by
    rw [wI_ne (by omega), hf]
    exact hr3 j hj ((o_plain wd ht' n19 n23 k24 hj).mp ho) hk
  unfold FWE
  cases b
  · refine ⟨wI τ a0 3 (nI (q0 + 1)), ?_, ?_, rr _⟩
    · rw [if_pos (by decide), nI_1, bnd_x, nI_1]
    · show CQ (wI τ a0 3 (nI (q0 + 1))) a0 a1 od s' (inc q' 0)
      have := hc.c3 hA (q' 0 + 1)
      rw [h0] at this
      unfold inc
      rw [h0]
      exact this
  · refine ⟨wI τ a0 3 (nI q0), ?_, ?_, rr _⟩
    · rw [if_neg (by decide), add0, bnd_x, nI_1]
    · show CQ (wI τ a0 3 (nI q0)) a0 a1 od s' q'
      have := hc.c3 hA (q' 0)
      rw [h0] at this
      have e : fset q' 0 q0 = q' := by
        funext j
        unfold fset
        by_cases y : j = 0
        · rw [if_pos y, y, h0]
        · rw [if_neg y]
      rwa [e] at this
theorem folAct {σ : St} {t : Nat} (hq' : CQ σ a0 a1 od s q) (hA : LA a0 a1) (i1 : WFt od s) (hr' : ∀ j, j < n → opn kd pa t j → kd j = 23 → σ.1 (a0 + 1) j = nI (R j)) (D : DVc σ 15 n kd te sg wh nu pa) (wd : WD n kd te sg wh nu pa) (ht' : t < n) (k24 : ¬ kd t = 24) (k300 : q 5 < 300) (i2' : q 6 < 65536) (k25 : ¬ kd t = 25) (k19 : ¬ kd t = 19) (k23 : ¬ kd t = 23) : ∃ σ', Li_follow σ a0 a1 15 (nI t) = some (nI (stp od n kd te sg wh nu pa (t, s, q, R)).1, σ') ∧ CL σ' a0 a1 od n kd pa (stp od n kd te sg wh nu pa (t, s, q, R)) := by
  have hn := wd.1
  obtain ⟨l1, l2, l3, l4⟩ := hA.f
  have hkl : kd t < 100 := by have := (wd.2 t ht').1; omega
  have hpre : Li_follow σ a0 a1 15 (nI t) = FWB (wI σ a0 2 (nI (q 5 + 1))) a0 a1 t (kd t) := FWB_pre (by omega) hkl (D.2.2 t ht').1 k24 hq'.2.1 k300
  have h2' : CQ (wI σ a0 2 (nI (q 5 + 1))) a0 a1 od s (inc q 5) := hq'.c2 hA (q 5 + 1)
  have D2 : DVc (wI σ a0 2 (nI (q 5 + 1))) 15 n kd te sg wh nu pa := D.keepF (folF2 _) (fun a i z => by omega)
  have hr2 : ∀ j, (wI σ a0 2 (nI (q 5 + 1))).1 (a0 + 1) j = σ.1 (a0 + 1) j := fun j => wI_ne (by omega)
  obtain ⟨σ3, hσ3⟩ : ∃ σ3, σ3 = wI σ a0 2 (nI (q 5 + 1)) := ⟨_, rfl⟩
  rw [← hσ3] at hpre h2' D2 hr2
  have c0 := (inc5 q).2.2.2
  have m0 : σ3.1 a0 3 = nI (q 0) := by rw [h2'.2.2.1, c0]
  have hw := (wd.2 t ht').2.2.2.2.2.2.1
  have h12 := (wd.2 t ht').2.2.2.1
  have hk0 := (wd.2 t ht').1
  have hr3 : ∀ j, j < n → opn kd pa t j → kd j = 23 → σ3.1 (a0 + 1) j = nI (R j) := fun j hj ho hk => (hr2 j).trans (hr' j hj ho hk)
  have f4 : wantsW (kd t) (te t) → σ3.1 (15 + 4) t = nI (wh t) := (D2.2.2 t ht').2.2.2.1
  have f5 : wantsN (kd t) (te t) → σ3.1 (15 + 5) t = nI (nu t) := (D2.2.2 t ht').2.2.2.2.1
  obtain ⟨w1, w2, w3, w4, w5⟩ := pact_w (od := od) (kd := kd t) (wh := wh t) (nu := nu t) (s := s) (q := inc q 5) i1 (by rw [(inc5 q).2.1]; exact i2') (fun e => (hw e).1)
  rw [c0] at w5
  unfold stp
  show ∃ σ', Li_follow σ a0 a1 15 (nI t) = _ ∧ _
  rw [if_neg k24, if_neg (show ¬ 300 ≤ q 5 by omega), if_neg k25, if_neg k19, if_neg k23]
  show ∃ σ', Li_follow σ a0 a1 15 (nI t) = some (nI (t + 1), σ') ∧ _
  by_cases k17 : kd t = 17
  · obtain ⟨u1, u2⟩ := hw k17
    obtain ⟨τ, t1, t2⟩ := partC h2' hA i1 (k := wh t) (m := nu t) h12 u1 u2
    have F : Fp (fun a i => ¬ a = a0 + 1) σ3 τ := (fp_Li_partIfItCan (A := fun a i => ¬ a = a0 + 1) Fp.rf (by omega) (by omega) (fun i => by omega) (fun i => by omega) (fun i => by omega) _ t1).2
    rw [← k17] at t1 t2
    obtain ⟨σ', g1, g2⟩ := folFin hA wd ht' hr3 t2 w5 (fun j => F.i (by omega)) k19 k23 k24
    refine ⟨σ', ?_, g2⟩
    rw [hpre, show FWB σ3 a0 a1 t (kd t) = FWB σ3 a0 a1 t 17 from congrArg _ k17, FWB_17, f4 (by unfold wantsW; omega), f5 (by unfold wantsN; omega), t1, bd2_s, m0, g1]
  · by_cases k18 : kd t = 18
    · obtain ⟨τ, t1, t2⟩ := chanceC h2' hA i1 (by rw [(inc5 q).2.1]; exact i2')
      have F : Fp (fun a i => ¬ a = a0 + 1) σ3 τ := (fp_Li_chance (A := fun a i => ¬ a = a0 + 1) Fp.rf (by omega) (by omega) (by omega) (by omega) (by omega) (fun i => by omega) _ t1).2
      have ep : pact od (kd t) (wh t) (nu t) s (inc q 5) = pany od s (inc q 5) := by unfold pact; rw [if_neg (by omega), if_neg (by omega), if_neg (by omega), if_neg (by omega), if_pos k18]
      rw [← ep] at t1 t2
      obtain ⟨σ', g1, g2⟩ := folFin hA wd ht' hr3 t2 w5 (fun j => F.i (by omega)) k19 k23 k24
      refine ⟨σ', ?_, g2⟩
      rw [hpre, show FWB σ3 a0 a1 t (kd t) = FWB σ3 a0 a1 t 18 from congrArg _ k18, FWB_18, t1, bd2_s, m0, g1]
    · have hk3 : kd t = 14 ∨ kd t = 15 ∨ kd t = 16 := by omega
      obtain ⟨τ, t1, t2⟩ := actC h2' hA i1 D2 wd ht' hk3
      have F : Fp (fun a i => ¬ a = a0 + 1) σ3 τ := (fp_Li_act (A := fun a i => ¬ a = a0 + 1) Fp.rf (by omega) (by omega) (by omega) (by omega) (fun i => by omega) _ t1).2
      obtain ⟨σ', g1, g2⟩ := folFin hA wd ht' hr3 t2 w5 (fun j => F.i (by omega)) k19 k23 k24
      refine ⟨σ', ?_, g2⟩
      rw [hpre, FWB_act (by omega), t1, bd2_s, m0, g1]
end FOLf
