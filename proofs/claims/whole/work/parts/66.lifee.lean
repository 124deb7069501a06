section FOLe
variable {od n : Nat} {kd te sg wh nu pa : Nat → Nat} {a0 a1 : Nat} {s : Nat × Nat × (Nat → Nat) × (Nat → Nat) × (Nat → Nat)} {q R : Nat → Nat}
theorem folF2 {σ : St} (v : Int32) : Fp (fun a i => a = a0) σ (wI σ a0 2 v) := Fp.wI (A := fun a i => a = a0) (Fp.rf (A := fun a i => a = a0)) (show a0 = a0 from rfl)
theorem fol25 {σ : St} {t : Nat} (hq' : CQ σ a0 a1 od s q) (hA : LA a0 a1) (i1 : WFt od s) (hr' : ∀ j, j < n → opn kd pa t j → kd j = 23 → σ.1 (a0 + 1) j = nI (R j)) (D : DVc σ 15 n kd te sg wh nu pa) (wd : WD n kd te sg wh nu pa) (ht' : t < n) (k24 : ¬ kd t = 24) (k300 : q 5 < 300) (k25 : kd t = 25) : ∃ σ', Li_follow σ a0 a1 15 (nI t) = some (nI (stp od n kd te sg wh nu pa (t, s, q, R)).1, σ') ∧ CL σ' a0 a1 od n kd pa (stp od n kd te sg wh nu pa (t, s, q, R)) := by
  have hn := wd.1
  obtain ⟨l1, l2, l3, l4⟩ := hA.f
  have hkl : kd t < 100 := by have := (wd.2 t ht').1; omega
  have hpre : Li_follow σ a0 a1 15 (nI t) = FWB (wI σ a0 2 (nI (q 5 + 1))) a0 a1 t (kd t) := FWB_pre (by omega) hkl (D.2.2 t ht').1 k24 hq'.2.1 k300
  have h2' : CQ (wI σ a0 2 (nI (q 5 + 1))) a0 a1 od s (inc q 5) := hq'.c2 hA (q 5 + 1)
  have D2 : DVc (wI σ a0 2 (nI (q 5 + 1))) 15 n kd te sg wh nu pa := D.keepF (folF2 _) (fun a i z => by omega)
  have hr2 : ∀ j, (wI σ a0 2 (nI (q 5 + 1))).1 (a0 + 1) j = σ.1 (a0 + 1) j := fun j => wI_ne (by omega)
  obtain ⟨σ3, hσ3⟩ : ∃ σ3, σ3 = wI σ a0 2 (nI (q 5 + 1)) := ⟨_, rfl⟩
  rw [← hσ3] at hpre h2' D2 hr2
  have c0 := (inc5 q).2.2.2
  have m0 : σ3.1 a0 3 = nI (q 0) := by rw [h2'.2.2.1, c0]
  unfold stp
  show ∃ σ', Li_follow σ a0 a1 15 (nI t) = _ ∧ _
  rw [if_neg k24, if_neg (show ¬ 300 ≤ q 5 by omega), if_pos k25]
  refine ⟨σ3, ?_, h2', fun j hj ho hk => absurd ho (folNone wd hj)⟩
  rw [hpre, k25, FWB_25, D2.2.1]
theorem fol23 {σ : St} {t : Nat} (hq' : CQ σ a0 a1 od s q) (hA : LA a0 a1) (i1 : WFt od s) (hr' : ∀ j, j < n → opn kd pa t j → kd j = 23 → σ.1 (a0 + 1) j = nI (R j)) (D : DVc σ 15 n kd te sg wh nu pa) (wd : WD n kd te sg wh nu pa) (ht' : t < n) (k24 : ¬ kd t = 24) (k300 : q 5 < 300) (k23 : kd t = 23) : ∃ σ', Li_follow σ a0 a1 15 (nI t) = some (nI (stp od n kd te sg wh nu pa (t, s, q, R)).1, σ') ∧ CL σ' a0 a1 od n kd pa (stp od n kd te sg wh nu pa (t, s, q, R)) := by
  have hn := wd.1
  obtain ⟨l1, l2, l3, l4⟩ := hA.f
  have hkl : kd t < 100 := by have := (wd.2 t ht').1; omega
  have hpre : Li_follow σ a0 a1 15 (nI t) = FWB (wI σ a0 2 (nI (q 5 + 1))) a0 a1 t (kd t) := FWB_pre (by omega) hkl (D.2.2 t ht').1 k24 hq'.2.1 k300
  have h2' : CQ (wI σ a0 2 (nI (q 5 + 1))) a0 a1 od s (inc q 5) := hq'.c2 hA (q 5 + 1)
  have D2 : DVc (wI σ a0 2 (nI (q 5 + 1))) 15 n kd te sg wh nu pa := D.keepF (folF2 _) (fun a i z => by omega)
  have hr2 : ∀ j, (wI σ a0 2 (nI (q 5 + 1))).1 (a0 + 1) j = σ.1 (a0 + 1) j := fun j => wI_ne (by omega)
  obtain ⟨σ3, hσ3⟩ : ∃ σ3, σ3 = wI σ a0 2 (nI (q 5 + 1)) := ⟨_, rfl⟩
  rw [← hσ3] at hpre h2' D2 hr2
  have c0 := (inc5 q).2.2.2
  have m0 : σ3.1 a0 3 = nI (q 0) := by rw [h2'.2.2.1, c0]
  unfold stp
  show ∃ σ', Li_follow σ a0 a1 15 (nI t) = _ ∧ _
  have e5 : σ3.1 (15 + 5) t = nI (nu t) := (D2.2.2 t ht').2.2.2.2.1 (by unfold wantsN; omega)
  rw [if_neg k24, if_neg (show ¬ 300 ≤ q 5 by omega), if_neg (show ¬ kd t = 25 by omega), if_neg (show ¬ kd t = 19 by omega), if_pos k23]
  refine ⟨wI σ3 (a0 + 1) t (nI (nu t)), ?_, folKeep hA h2' _, fun j hj ho hk => ?_⟩
  · rw [hpre, k23, FWB_23, e5, nI_1]
  · show (wI σ3 (a0 + 1) t (nI (nu t))).1 (a0 + 1) j = nI (fset R t (nu t) j)
    by_cases e : j = t
    · rw [e, wI_s, fset_1]
    · rw [wI_ne (by omega), fset_2 _ _ e, hr2]
      exact hr' j hj (((o_open wd ht' (Or.inr k23) hj).mp ho).resolve_right e) hk
theorem fol19 {σ : St} {t : Nat} (hq' : CQ σ a0 a1 od s q) (hA : LA a0 a1) (i1 : WFt od s) (hr' : ∀ j, j < n → opn kd pa t j → kd j = 23 → σ.1 (a0 + 1) j = nI (R j)) (D : DVc σ 15 n kd te sg wh nu pa) (wd : WD n kd te sg wh nu pa) (ht' : t < n) (k24 : ¬ kd t = 24) (k300 : q 5 < 300) (k19 : kd t = 19) : ∃ σ', Li_follow σ a0 a1 15 (nI t) = some (nI (stp od n kd te sg wh nu pa (t, s, q, R)).1, σ') ∧ CL σ' a0 a1 od n kd pa (stp od n kd te sg wh nu pa (t, s, q, R)) := by
  have hn := wd.1
  obtain ⟨l1, l2, l3, l4⟩ := hA.f
  have hkl : kd t < 100 := by have := (wd.2 t ht').1; omega
  have hpre : Li_follow σ a0 a1 15 (nI t) = FWB (wI σ a0 2 (nI (q 5 + 1))) a0 a1 t (kd t) := FWB_pre (by omega) hkl (D.2.2 t ht').1 k24 hq'.2.1 k300
  have h2' : CQ (wI σ a0 2 (nI (q 5 + 1))) a0 a1 od s (inc q 5) := hq'.c2 hA (q 5 + 1)
  have D2 : DVc (wI σ a0 2 (nI (q 5 + 1))) 15 n kd te sg wh nu pa := D.keepF (folF2 _) (fun a i z => by omega)
  have hr2 : ∀ j, (wI σ a0 2 (nI (q 5 + 1))).1 (a0 + 1) j = σ.1 (a0 + 1) j := fun j => wI_ne (by omega)
  obtain ⟨σ3, hσ3⟩ : ∃ σ3, σ3 = wI σ a0 2 (nI (q 5 + 1)) := ⟨_, rfl⟩
  rw [← hσ3] at hpre h2' D2 hr2
  have c0 := (inc5 q).2.2.2
  have m0 : σ3.1 a0 3 = nI (q 0) := by rw [h2'.2.2.1, c0]
  unfold stp
  show ∃ σ', Li_follow σ a0 a1 15 (nI t) = _ ∧ _
  obtain ⟨p1, p2, p3, p4⟩ := (wd.2 t ht').2.2.2.2.2.2.2.2.1 (Or.inl k19)
  have f6 : σ3.1 (15 + 6) t = nI (pa t) := (D2.2.2 t ht').2.2.2.2.2 (by unfold wantsP; omega)
  obtain ⟨τ, t1, t2⟩ := isSoC h2'.1 hA i1 D2 wd ht' k19
  have hq3 : CQ τ a0 a1 od s (inc q 5) := h2'.keep (h2'.1.keep (t2.sm (fun b i z1 z2 z => by unfold Asv at z; omega))) (fun i => t2.i (by unfold Asv; omega))
  have hr3 : ∀ j, τ.1 (a0 + 1) j = σ3.1 (a0 + 1) j := fun j => t2.i (by unfold Asv; omega)
  have e6 : τ.1 (15 + 6) t = nI (pa t) := (t2.i (by unfold Asv; omega)).trans f6
  have hpre2 : Li_follow σ a0 a1 15 (nI t) = (if (if ptst (te t) (sg t) (wh t) (nu t) s = true then (1 : Int32) else 0) = 0 then (chk true (some (((jmax (nI t) (nI (pa t))) + 1), τ))) else (some ((nI t + 1), τ))) := by
    rw [hpre, k19, FWB_19, t1, bd2_s, e6]
  rw [if_neg k24, if_neg (show ¬ 300 ≤ q 5 by omega), if_neg (show ¬ kd t = 25 by omega), if_pos k19]
  by_cases z : ptst (te t) (sg t) (wh t) (nu t) s = true
  · refine ⟨τ, ?_, hq3, fun j hj ho hk => ?_⟩
    · rw [hpre2, if_pos z, if_neg (by decide), nI_1]
      show _ = some (nI (if ptst (te t) (sg t) (wh t) (nu t) s = true then t + 1 else pa t + 1), τ)
      rw [if_pos z]
    · have ho' : opn kd pa (if ptst (te t) (sg t) (wh t) (nu t) s = true then t + 1 else pa t + 1) j := ho
      rw [if_pos z] at ho'
      rcases (o_open wd ht' (Or.inl k19) hj).mp ho' with y | y
      · exact (hr3 j).trans ((hr2 j).trans (hr' j hj y hk))
      · rw [y] at hk; omega
  · refine ⟨τ, ?_, hq3, fun j hj ho hk => ?_⟩
    · rw [hpre2, if_neg z, if_pos rfl, chk_true, jmax_nI (by omega) (by omega), Nat.max_eq_right (by omega), nI_1]
      show _ = some (nI (if ptst (te t) (sg t) (wh t) (nu t) s = true then t + 1 else pa t + 1), τ)
      rw [if_neg z]
    · have ho' : opn kd pa (if ptst (te t) (sg t) (wh t) (nu t) s = true then t + 1 else pa t + 1) j := ho
      rw [if_neg z] at ho'
      exact (hr3 j).trans ((hr2 j).trans (hr' j hj ((o_skip wd ht' (Or.inl k19) hj).mp ho') hk))
end FOLe
