section LIB
variable {od n : Nat} {kd te sg wh nu pa : Nat → Nat} {s : Nat × Nat × (Nat → Nat) × (Nat → Nat) × (Nat → Nat)} {q R : Nat → Nat}
theorem Alf.w (a i : Nat) (h : Alf a i) : Alw a i := Or.inl h
theorem Fp.r108 {σ τ : St} (F : Fp Alf σ τ) (j : Nat) : τ.1 108 j = σ.1 108 j := F.i (by unfold Alf; omega)
theorem MLq.ly {σ τ : St} (h : MLq σ od s q) (F : Fp Aly σ τ) : MLq τ od s q := h.keep (s2 := s) (MV.keep h.1 (F.sm (fun b i q1 q2 q => by unfold Aly at q; omega))) F (fun i => by unfold Aly; omega)
/-- a step that no end is, in the reference: what it does before it looks for ends. -/
theorem bodyM {σ : St} {FIN L : Nat × (Nat × Nat × (Nat → Nat) × (Nat → Nat) × (Nat → Nat)) × (Nat → Nat) × (Nat → Nat)} (h : LSt σ od n kd te sg wh nu pa FIN L) (wd : WD n kd te sg wh nu pa) (hl : L.1 < n) (k24 : ¬ kd L.1 = 24) (k25 : ¬ kd L.1 = 25) (h300 : L.2.2.1 5 < 300) (h4 : L.2.2.1 4 = 0) : ∃ σ', Mo_lives_L32 σ (nI L.1) = bd2 (Mo_behindEnds σ' (nI (stp od n kd te sg wh nu pa L).1)) (fun r20 σ21 => some (.inl (r20, σ21))) ∧ LSt σ' od n kd te sg wh nu pa FIN (stp od n kd te sg wh nu pa L) ∧ (stp od n kd te sg wh nu pa L).2.2.1 5 = L.2.2.1 5 + 1 ∧ (stp od n kd te sg wh nu pa L).2.2.1 4 = 0 ∧ Fp Alw σ σ' := by
  have go := fun σ2 hm F => h.go (σ2 := σ2) wd hl hm F
  obtain ⟨t, s, q, R⟩ := L
  have hr : ∀ j, j < n → opn kd pa t j → kd j = 23 → σ.1 108 j = nI (R j - 1) := h.2.1.2
  have hq : MLq σ od s q := h.2.1.1
  have hq6 : q 6 < 65536 := h.1.2.1
  have w : WFt od s := h.1.1
  have D := h.2.2.1
  have ht : t < n := hl
  have n24 : ¬ kd t = 24 := k24
  have n25 : ¬ kd t = 25 := k25
  have h300' : q 5 < 300 := h300
  have h4' : q 4 = 0 := h4
  have hn := wd.1
  have hk0 := (wd.2 t ht).1
  have hte := (wd.2 t ht).2.1
  have dk := D.k ht
  have h1 : MLq (wI σ 92 33 (nI (q 5 + 1))) od s (inc q 5) := hq.c (q 5 + 1)
  have F1 : Fp Alw σ (wI σ 92 33 (nI (q 5 + 1))) := Fp.wI (A := Alw) (Fp.rf (A := Alw)) (by unfold Alw; omega)
  have D1 : DVm (wI σ 92 33 (nI (q 5 + 1))) 0 n kd te sg wh nu pa := D.keepF F1 (fun i z => by unfold Alw Alf at z; omega)
  have r1 : ∀ j, (wI σ 92 33 (nI (q 5 + 1))).1 108 j = σ.1 108 j := fun j => wI_ne (by omega)
  obtain ⟨σ1, hσ1⟩ : ∃ σ1, σ1 = wI σ 92 33 (nI (q 5 + 1)) := ⟨_, rfl⟩
  obtain ⟨K, hK⟩ : ∃ K, K = (if kd t = 19 then 890 + te t else kd t - 10) := ⟨_, rfl⟩
  have hKb : K < 2000 ∧ ¬ K = 15 := by
    rw [hK]
    by_cases y : kd t = 19
    · rw [if_pos y]; have := hte y; omega
    · rw [if_neg y]; omega
  rw [← hK] at dk
  have dk1 : (wI σ 92 33 (nI (q 5 + 1))).1 93 (40 + 6 * t) = nI K := (wI_ne (by omega)).trans dk
  rw [← hσ1] at h1 F1 D1 r1 dk1
  obtain ⟨c5, c6, c4, c0⟩ := inc5 q
  have hpre : Mo_lives_L32 σ (nI t) = bd2 (Mo_does σ1 (nI (40 + 6 * t))) (fun r15 σ16 => if r15 = 0 then (chk (ix 0 5) (chk (ix 0 5) (bnd (wI σ16 109 (tn 0) ((σ16.1 109 (tn 0)) + 1)) (fun σ38 => Mo_lives_J125_32 σ38 (nI t) (nI (40 + 6 * t)))))) else (Mo_lives_J125_32 σ16 (nI t) (nI (40 + 6 * t)))) := by
    unfold Mo_lives_L32
    rw [show ix 2 2060 = true from by decide, chk_true, show tn 2 = 2 from rfl, D.n0, if_neg (by rw [le_nI (by omega) (by omega)]; omega), show ix 4 5 = true from by decide, chk_true, show tn 4 = 4 from rfl, hq.2.2.1 4 (by omega), h4', if_pos (show nI 0 = 0 from rfl), hq.2.1, show (300 : Int32) = nI 300 from rfl, if_neg (by rw [eq_nI (by omega) (by omega)]; omega), at0, bnd_x, nI_1, bnd_x, ← hσ1, ix_nI (by omega) (by omega), chk_true, tn_nI (show 40 + 6 * t < 2147483648 by omega), dk1, show (15 : Int32) = nI 15 from rfl, if_neg (by rw [eq_nI (by omega) (by omega)]; exact hKb.2)]
  obtain ⟨τ, t1, t2, t3⟩ := doesM h1 w (by rw [c6]; exact hq6) D1 wd ht n24 n25
  obtain ⟨w1, w2, w3, w4, w5⟩ := pact_w (od := od) (kd := kd t) (wh := wh t) (nu := nu t) (s := s) (q := inc q 5) w (by rw [c6]; exact hq6) (fun e => ((wd.2 t ht).2.2.2.2.2.2.1 e).1)
  rw [c5] at w3
  rw [c4, h4'] at w4
  -- after the act
  have A : ∃ ω, Mo_lives_L32 σ (nI t) = Mo_lives_J125_32 ω (nI t) (nI (40 + 6 * t)) ∧ MLq ω od (pact od (kd t) (wh t) (nu t) s (inc q 5)).2.1 (if (pact od (kd t) (wh t) (nu t) s (inc q 5)).1 = true then (pact od (kd t) (wh t) (nu t) s (inc q 5)).2.2 else inc (pact od (kd t) (wh t) (nu t) s (inc q 5)).2.2 0) ∧ Fp Alf σ1 ω := by
    rw [hpre, t1, bd2_s]
    by_cases b : (pact od (kd t) (wh t) (nu t) s (inc q 5)).1 = true
    · rw [if_pos b, if_neg (by decide), if_pos b]
      exact ⟨τ, rfl, t2, t3⟩
    · rw [if_neg b, if_pos rfl, if_neg b, show ix 0 5 = true from by decide, chk_true, chk_true, tn00, t2.2.2.1 0 (by omega), nI_1, bnd_x]
      exact ⟨_, rfl, t2.j (by omega) _, t3.wI (by unfold Alf; omega)⟩
  obtain ⟨ω, a1, a2, a3⟩ := A
  have Dω : DVm ω 0 n kd te sg wh nu pa := D1.keepF a3 (fun i z => by unfold Alf at z; omega)
  have dω : ω.1 93 (40 + 6 * t) = nI K := (a3.i (by unfold Alf; omega)).trans dk1
  have rω : ∀ j, ω.1 108 j = σ.1 108 j := fun j => (a3.r108 j).trans (r1 j)
  have Fω : Fp Alw σ ω := F1.tr (a3.mono Alf.w)
  have i1 : ix (nI (40 + 6 * t)) 2060 = true := ix_nI (by omega) (by omega)
  have tn1 : tn (nI (40 + 6 * t)) = 40 + 6 * t := tn_nI (by omega)
  have hs : ∃ X, X = stp od n kd te sg wh nu pa (t, s, q, R) := ⟨_, rfl⟩
  show ∃ σ', Mo_lives_L32 σ (nI t) = _ ∧ _
  rw [a1]
  by_cases k23 : kd t = 23
  · have hK' : K = 13 := by rw [hK, if_neg (by omega), k23]
    have hnu := (wd.2 t ht).2.2.2.2.2.2.2.1 k23
    have ep : pact od (kd t) (wh t) (nu t) s (inc q 5) = (true, s, inc q 5) := by unfold pact; rw [if_neg (by omega), if_neg (by omega), if_neg (by omega), if_neg (by omega), if_neg (by omega)]
    have st : stp od n kd te sg wh nu pa (t, s, q, R) = (t + 1, s, inc q 5, fset R t (nu t)) := by
      unfold stp
      show (if kd t = 24 then _ else if 300 ≤ q 5 then _ else if kd t = 25 then _ else if kd t = 19 then _ else if kd t = 23 then _ else _) = _
      rw [if_neg n24, if_neg (by omega), if_neg n25, if_neg (show ¬ kd t = 19 by omega), if_pos k23]
    rw [ep, if_pos rfl] at a2
    rw [st] at go ⊢
    have FF : Fp Alw σ (wI ω 108 t (nI (nu t - 1))) := Fp.wI (A := Alw) Fω (by unfold Alw; omega)
    refine ⟨wI ω 108 t (nI (nu t - 1)), ?_, go _ ⟨a2.r _ _, fun j hj ho hk => ?_⟩ FF, c5, c4.trans h4', FF⟩
    · unfold Mo_lives_J125_32 Mo_lives_J152_32 Mo_lives_J177_32
      rw [i1, chk_true, tn1, dω, hK', if_pos (show nI 13 = 13 from rfl), at2, ix_nI (by omega) (by omega), chk_true, tn_nI (show 42 + 6 * t < 2147483648 by omega), Dω.u ht (by unfold wantsN; omega), ix_nI (show t < 60 by omega) (by omega), chk_true, tn_nI (show t < 2147483648 by omega), show nI (nu t) - 1 = nI (nu t - 1) from sub_nI (a := nu t) (b := 1) hnu.1, bnd_x, chk_true, show (wI ω 108 t (nI (nu t - 1))).1 93 (40 + 6 * t) = nI 13 from (wI_ne (by omega)).trans (by rw [dω, hK']), if_pos (by decide), if_pos rfl, nI_1]
    · show (wI ω 108 t (nI (nu t - 1))).1 108 j = nI (fset R t (nu t) j - 1)
      by_cases e : j = t
      · rw [e, wI_s, fset_1]
      · rw [wI_ne (by omega), fset_2 _ _ e, rω]
        exact hr j hj (((o_open wd ht (Or.inr k23) hj).mp ho).resolve_right e) hk
  · have hK13 : ¬ K = 13 := by
      rw [hK]
      by_cases y : kd t = 19
      · rw [if_pos y]; omega
      · rw [if_neg y]; omega
    by_cases k19 : kd t = 19
    · obtain ⟨p1, p2, p3, p4⟩ := (wd.2 t ht).2.2.2.2.2.2.2.2.1 (Or.inl k19)
      have hK' : K = 890 + te t := by rw [hK, if_pos k19]
      have hte' := hte k19
      have ep : pact od (kd t) (wh t) (nu t) s (inc q 5) = (true, s, inc q 5) := by unfold pact; rw [if_neg (by omega), if_neg (by omega), if_neg (by omega), if_neg (by omega), if_neg (by omega)]
      have st : stp od n kd te sg wh nu pa (t, s, q, R) = ((if ptst (te t) (sg t) (wh t) (nu t) s = true then t + 1 else pa t + 1), s, inc q 5, R) := by
        unfold stp
        show (if kd t = 24 then _ else if 300 ≤ q 5 then _ else if kd t = 25 then _ else if kd t = 19 then _ else if kd t = 23 then _ else _) = _
        rw [if_neg n24, if_neg (by omega), if_neg n25, if_pos k19]
      rw [ep, if_pos rfl] at a2
      rw [st] at go ⊢
      obtain ⟨υ, u1, u2⟩ := holdsM a2.1 w Dω wd ht k19
      have FF : Fp Alw σ υ := Fω.tr (u2.mono (fun a i z => by unfold Aly at z; unfold Alw Alf; omega))
      have rυ : ∀ j, υ.1 108 j = σ.1 108 j := fun j => (u2.i (by unfold Aly; omega)).trans (rω j)
      have pυ : υ.1 93 (44 + 6 * t) = nI (pa t) := (u2.i (by unfold Aly; omega)).trans (Dω.p ht (by unfold wantsP; omega))
      have e1 : Mo_lives_J125_32 ω (nI t) (nI (40 + 6 * t)) = (if (if ptst (te t) (sg t) (wh t) (nu t) s = true then (1 : Int32) else 0) = 0 then (Mo_lives_J177_32 υ (nI t) (nI (40 + 6 * t)) 1) else (Mo_lives_J177_32 υ (nI t) (nI (40 + 6 * t)) 0)) := by
        unfold Mo_lives_J125_32 Mo_lives_J152_32
        rw [i1, chk_true, tn1, dω, show (13 : Int32) = nI 13 from rfl, if_neg (by rw [eq_nI (by omega) (by omega)]; exact hK13), chk_true, show (900 : Int32) = nI 900 from rfl, if_neg (by rw [lt_nI (by omega) (by omega)]; omega), u1, bd2_s]
      by_cases z : ptst (te t) (sg t) (wh t) (nu t) s = true
      · rw [if_pos z] at go ⊢
        refine ⟨υ, ?_, go _ ⟨a2.ly u2, fun j hj ho hk => ?_⟩ FF, c5, c4.trans h4', FF⟩
        · rw [e1, if_pos z, if_neg (by decide)]
          unfold Mo_lives_J177_32
          rw [if_pos rfl, nI_1]
        · rcases (o_open wd ht (Or.inl k19) hj).mp ho with y | y
          · exact (rυ j).trans (hr j hj y hk)
          · rw [y] at hk; omega
      · rw [if_neg z] at go ⊢
        refine ⟨υ, ?_, go _ ⟨a2.ly u2, fun j hj ho hk => ?_⟩ FF, c5, c4.trans h4', FF⟩
        · rw [e1, if_neg z, if_pos rfl]
          unfold Mo_lives_J177_32
          rw [if_neg (by decide), at4, ix_nI (by omega) (by omega), chk_true, tn_nI (show 44 + 6 * t < 2147483648 by omega), pυ, nI_1]
        · exact (rυ j).trans (hr j hj ((o_skip wd ht (Or.inl k19) hj).mp ho) hk)
    · have hK9 : K < 900 := by rw [hK, if_neg k19]; omega
      have st : stp od n kd te sg wh nu pa (t, s, q, R) = (t + 1, (pact od (kd t) (wh t) (nu t) s (inc q 5)).2.1, (if (pact od (kd t) (wh t) (nu t) s (inc q 5)).1 = true then (pact od (kd t) (wh t) (nu t) s (inc q 5)).2.2 else inc (pact od (kd t) (wh t) (nu t) s (inc q 5)).2.2 0), R) := by
        unfold stp
        show (if kd t = 24 then _ else if 300 ≤ q 5 then _ else if kd t = 25 then _ else if kd t = 19 then _ else if kd t = 23 then _ else _) = _
        rw [if_neg n24, if_neg (by omega), if_neg n25, if_neg k19, if_neg k23]
      rw [st] at go ⊢
      refine ⟨ω, ?_, go _ ⟨a2, fun j hj ho hk => ?_⟩ Fω, ?_, ?_, Fω⟩
      · unfold Mo_lives_J125_32 Mo_lives_J152_32 Mo_lives_J177_32
        rw [i1, chk_true, tn1, dω, show (13 : Int32) = nI 13 from rfl, if_neg (by rw [eq_nI (by omega) (by omega)]; exact hK13), chk_true, show (900 : Int32) = nI 900 from rfl, if_pos (by rw [lt_nI (by omega) (by omega)]; omega), if_pos rfl, nI_1]
      · exact (rω j).trans (hr j hj ((o_plain wd ht k19 k23 n24 hj).mp ho) hk)
      · show (if (pact od (kd t) (wh t) (nu t) s (inc q 5)).1 = true then (pact od (kd t) (wh t) (nu t) s (inc q 5)).2.2 else inc (pact od (kd t) (wh t) (nu t) s (inc q 5)).2.2 0) 5 = q 5 + 1
        by_cases b : (pact od (kd t) (wh t) (nu t) s (inc q 5)).1 = true
        · rw [if_pos b, w3]
        · rw [if_neg b]; unfold inc; rw [fset_2 _ _ (by omega)]; exact w3
      · show (if (pact od (kd t) (wh t) (nu t) s (inc q 5)).1 = true then (pact od (kd t) (wh t) (nu t) s (inc q 5)).2.2 else inc (pact od (kd t) (wh t) (nu t) s (inc q 5)).2.2 0) 4 = 0
        by_cases b : (pact od (kd t) (wh t) (nu t) s (inc q 5)).1 = true
        · rw [if_pos b, w4]
        · rw [if_neg b]; unfold inc; rw [fset_2 _ _ (by omega)]; exact w4
end LIB
