section FOLb
variable {od n : Nat} {kd te sg wh nu pa : Nat → Nat} {a0 a1 : Nat} {s : Nat × Nat × (Nat → Nat) × (Nat → Nat) × (Nat → Nat)} {q R : Nat → Nat}
theorem isSoC {σ : St} {t : Nat} (h : CV σ a1 s.1 od s.2.1 s.2.2.1 s.2.2.2.1 s.2.2.2.2) (hA : LA a0 a1) (w : WFt od s) (D : DVc σ 15 n kd te sg wh nu pa) (wd : WD n kd te sg wh nu pa) (ht : t < n) (hk : kd t = 19) : ∃ σ', Li_isSo σ a1 15 (nI t) = some ((if ptst (te t) (sg t) (wh t) (nu t) s = true then 1 else 0), σ') ∧ Fp Asv σ σ' := by
  have hn := wd.1
  have hc : s.1 ≤ 12 := w.1
  have ho := WF.on4 w
  obtain ⟨d1, d2, d3, d4, d5, d6⟩ := D.2.2 t ht
  have hw := wd.2 t ht
  have hwh := hw.2.2.2.1
  have e2 : σ.1 (15 + 2) t = nI (te t) := d2 hk
  unfold ptst
  have fl : ∀ {τ : St}, Si_fill σ a1 (nI s.2.1) = some (1, τ) → Fp Asv σ τ := fun hf => (fp_Si_fill (A := Asv) (Fp.rf (σ := σ)) (by unfold Asv; omega) (by unfold Asv; omega) (fun i => by unfold Asv; omega) (fun i => by unfold Asv; omega) _ hf).2
  rcases hw.2.1 hk with k | k | k | k
  · have e4 : σ.1 (15 + 4) t = nI (wh t) := d4 (by unfold wantsW; omega)
    refine ⟨σ, ?_, Fp.rf⟩
    unfold Li_isSo
    rw [ix_nI (by omega) (by omega), chk_true, tn_nI (by omega), bnd_x, chk_true, e2, k, if_pos (show nI 15 = 15 from rfl), chk_true, e4, isOn_n h w (by omega), bd_s, if_pos rfl]
    by_cases z : s.2.1.testBit (wh t) = true
    · rw [if_pos z, ckl1, chk_true]
    · rw [if_neg z, ckl0, chk_true]
  · have hpre : Li_isSo σ a1 15 (nI t) = (bd2 (Si_fill σ a1 (nI s.2.1)) (fun r10 σ11 => if r10 = 0 then (some (0, σ11)) else (bd (Si_countGaps σ11) (fun r13 => if r13 = 0 then (some (1, σ11)) else (some (0, σ11)))))) := by
      unfold Li_isSo
      rw [ix_nI (by omega) (by omega), chk_true, tn_nI (by omega), bnd_x, chk_true, e2, k, if_neg (by decide), if_pos (show nI 20 = 20 from rfl), h.2.1]
    rw [hpre, k, if_neg (show ¬ (20 : Nat) = 15 by decide), if_pos (show (20 : Nat) = 20 from rfl)]
    by_cases h0 : spn s.2.2.2.1 s.2.1 s.1 = 0
    · rw [fillC_0 h w ho h0, bd2_s, if_pos rfl, if_neg (show ¬ decide (¬ spn s.2.2.2.1 s.2.1 s.1 = 0 ∧ gpn s.1 s.2.1 s.2.2.1 s.2.2.2.1 (spn s.2.2.2.1 s.2.1 s.1) = 0) = true by simp [h0])]
      exact ⟨σ, rfl, Fp.rf⟩
    · obtain ⟨p1, p2⟩ := spn_pos h0
      obtain ⟨τ, t1, t2⟩ := fillC_n h (by unfold LA at hA; omega) w ho h0
      have hg := gpn_le s.1 s.2.1 s.2.2.1 s.2.2.2.1 (spn s.2.2.2.1 s.2.1 s.1)
      refine ⟨τ, ?_, fl t1⟩
      rw [t1, bd2_s, if_neg (by decide), gaps_c t2 p2, bd_s]
      by_cases z : gpn s.1 s.2.1 s.2.2.1 s.2.2.2.1 (spn s.2.2.2.1 s.2.1 s.1) = 0
      · rw [if_pos (by rw [z]; rfl), if_pos (decide_eq_true ⟨h0, z⟩)]
      · rw [if_neg (by rw [show (0 : Int32) = nI 0 from rfl, eq_nI (by omega) (by omega)]; exact z), if_neg (show ¬ decide (¬ spn s.2.2.2.1 s.2.1 s.1 = 0 ∧ gpn s.1 s.2.1 s.2.2.1 s.2.2.2.1 (spn s.2.2.2.1 s.2.1 s.1) = 0) = true by simp [z])]
  · have e5 : σ.1 (15 + 5) t = nI (nu t) := d5 (by unfold wantsN; omega)
    have hnu := hw.2.2.2.2.1
    have hcs : cset s.1 s.2.1 s.2.2.1 s.2.2.2.1 (nu t) < 4096 := cset_4 hc
    refine ⟨σ, ?_, Fp.rf⟩
    unfold Li_isSo
    rw [ix_nI (by omega) (by omega), chk_true, tn_nI (by omega), e5, bnd_x, chk_true, e2, k, if_neg (by decide), if_neg (by decide), if_pos (show nI 21 = 21 from rfl), catchers_n h w (by omega), bd_s, if_neg (show ¬ (21 : Nat) = 15 by decide), if_neg (show ¬ (21 : Nat) = 20 by decide), if_pos (show (21 : Nat) = 21 from rfl)]
    by_cases z : cset s.1 s.2.1 s.2.2.1 s.2.2.2.1 (nu t) = 0
    · rw [if_pos (by rw [z]; rfl), if_neg (show ¬ (!decide (cset s.1 s.2.1 s.2.2.1 s.2.2.2.1 (nu t) = 0)) = true by simp [z])]
    · rw [if_neg (by rw [show (0 : Int32) = nI 0 from rfl, eq_nI (by omega) (by omega)]; exact z), if_pos (show (!decide (cset s.1 s.2.1 s.2.2.1 s.2.2.2.1 (nu t) = 0)) = true by simp [z])]
  · have e5 : σ.1 (15 + 5) t = nI (nu t) := d5 (by unfold wantsN; omega)
    have e3 : σ.1 (15 + 3) t = nI (sg t) := d3 hk k
    have hnu := hw.2.2.2.2.1
    have hsg := hw.2.2.1 hk k
    have hpre : Li_isSo σ a1 15 (nI t) = (bd2 (Si_fill σ a1 (nI s.2.1)) (fun r22 σ23 => if r22 = 0 then (some (0, σ23)) else (bd (Si_countGaps σ23) (fun r25 => chk true (bd (Li_compares r25 (σ23.1 (15 + 3) t) (nI (nu t))) (fun r28 => if r28 = 0 then (some (0, σ23)) else (some (1, σ23)))))))) := by
      unfold Li_isSo
      rw [ix_nI (by omega) (by omega), chk_true, tn_nI (by omega), e5, bnd_x, chk_true, e2, k, if_neg (by decide), if_neg (by decide), if_neg (by decide), h.2.1]
    rw [hpre, k, if_neg (show ¬ (22 : Nat) = 15 by decide), if_neg (show ¬ (22 : Nat) = 20 by decide), if_neg (show ¬ (22 : Nat) = 21 by decide)]
    by_cases h0 : spn s.2.2.2.1 s.2.1 s.1 = 0
    · rw [fillC_0 h w ho h0, bd2_s, if_pos rfl, decide_eq_true h0]
      exact ⟨σ, rfl, Fp.rf⟩
    · obtain ⟨p1, p2⟩ := spn_pos h0
      obtain ⟨τ, t1, t2⟩ := fillC_n h (by unfold LA at hA; omega) w ho h0
      have hg := gpn_le s.1 s.2.1 s.2.2.1 s.2.2.2.1 (spn s.2.2.2.1 s.2.1 s.1)
      have Fτ := fl t1
      have e3' : τ.1 (15 + 3) t = nI (sg t) := (Fτ.i (by unfold Asv; omega)).trans e3
      refine ⟨τ, ?_, Fτ⟩
      rw [t1, bd2_s, if_neg (by decide), gaps_c t2 p2, bd_s, chk_true, e3', decide_eq_false h0]
      generalize gpn s.1 s.2.1 s.2.2.1 s.2.2.2.1 (spn s.2.2.2.1 s.2.1 s.1) = G at hg
      unfold Li_compares cmpb
      rcases hsg with g | g | g
      · rw [g, if_pos (show nI 6 = 6 from rfl), if_pos rfl]
        by_cases z : G < nu t
        · rw [if_neg (by rw [le_nI (by omega) (by omega)]; omega), bd_s, if_neg (by decide), decide_eq_true z]; rfl
        · rw [if_pos (by rw [le_nI (by omega) (by omega)]; omega), bd_s, if_pos rfl, decide_eq_false z]; rfl
      · rw [g, if_neg (by decide), if_pos (show nI 7 = 7 from rfl), if_neg (show ¬ (7 : Nat) = 6 by decide), if_pos rfl]
        by_cases z : nu t < G
        · rw [if_neg (by rw [le_nI (by omega) (by omega)]; omega), bd_s, if_neg (by decide), decide_eq_true z]; rfl
        · rw [if_pos (by rw [le_nI (by omega) (by omega)]; omega), bd_s, if_pos rfl, decide_eq_false z]; rfl
      · rw [g, if_neg (by decide), if_neg (by decide), if_neg (show ¬ (8 : Nat) = 6 by decide), if_neg (show ¬ (8 : Nat) = 7 by decide)]
        by_cases z : G = nu t
        · rw [if_pos (by rw [z]), bd_s, if_neg (by decide), decide_eq_true z]; rfl
        · rw [if_neg (by rw [eq_nI (by omega) (by omega)]; omega), bd_s, if_pos rfl, decide_eq_false z]; rfl
end FOLb
