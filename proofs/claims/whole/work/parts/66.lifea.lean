section FOLa
variable {od n : Nat} {kd te sg wh nu pa : Nat → Nat} {a0 a1 : Nat} {s : Nat × Nat × (Nat → Nat) × (Nat → Nat) × (Nat → Nat)} {q R : Nat → Nat}
theorem actC {σ : St} {t : Nat} (h : CQ σ a0 a1 od s q) (hA : LA a0 a1) (w : WFt od s) (D : DVc σ 15 n kd te sg wh nu pa) (wd : WD n kd te sg wh nu pa) (ht : t < n) (hk : kd t = 14 ∨ kd t = 15 ∨ kd t = 16) : ∃ σ', Li_act σ a0 a1 15 (nI t) = some ((if (pact od (kd t) (wh t) (nu t) s q).1 = true then 1 else 0), σ') ∧ CQ σ' a0 a1 od (pact od (kd t) (wh t) (nu t) s q).2.1 (pact od (kd t) (wh t) (nu t) s q).2.2 := by
  have hn := wd.1
  have hc : s.1 ≤ 12 := w.1
  obtain ⟨d1, d2, d3, d4, d5, d6⟩ := D.2.2 t ht
  have hw := wd.2 t ht
  have hwh := hw.2.2.2.1
  rcases hk with k | k | k
  · have ep : pact od (kd t) (wh t) (nu t) s q = if s.2.1.testBit (wh t) = true then (true, pflip s (wh t), fcnt s (wh t) q) else (false, s, q) := by unfold pact; rw [if_pos k]
    have e4 : σ.1 (15 + 4) t = nI (wh t) := d4 (by unfold wantsW; omega)
    rw [ep]
    have hpre : Li_act σ a0 a1 15 (nI t) = bd (Cl_isOn σ a1 (nI (wh t))) (fun r5 => if r5 = 0 then (some (0, σ)) else (bd2 (Li_flip σ a0 a1 (nI (wh t))) (fun r7 σ8 => if r7 = 0 then (some (0, σ8)) else (some (1, σ8))))) := by
      unfold Li_act
      rw [ix_nI (by omega) (by omega), chk_true, tn_nI (by omega), e4, bnd_x, chk_true, d1, k, if_pos (show nI 14 = 14 from rfl)]
    rw [hpre, isOn_n h.1 w (by omega), bd_s]
    by_cases z : s.2.1.testBit (wh t) = true
    · obtain ⟨τ, t1, t2⟩ := flipC h hA w (w.lt z)
      rw [if_pos z, if_neg (by decide), t1, bd2_s, if_neg (by decide), if_pos z]
      exact ⟨τ, rfl, t2⟩
    · rw [if_neg z, if_pos rfl, if_neg z]
      exact ⟨σ, rfl, h⟩
  · have ep : pact od (kd t) (wh t) (nu t) s q = if wh t < s.1 ∧ ¬ s.2.1.testBit (wh t) = true then (true, pflip s (wh t), fcnt s (wh t) q) else (false, s, q) := by unfold pact; rw [if_neg (by omega), if_pos k]
    have e4 : σ.1 (15 + 4) t = nI (wh t) := d4 (by unfold wantsW; omega)
    rw [ep]
    have hth := isThere_g h.1.1 (by omega) (nI (wh t))
    have hpre : Li_act σ a0 a1 15 (nI t) = bd (Cl_isThere σ a1 (nI (wh t))) (fun r13 => if r13 = 0 then (some (0, σ)) else (bd (Cl_isOn σ a1 (nI (wh t))) (fun r15 => if r15 = 0 then (bd2 (Li_flip σ a0 a1 (nI (wh t))) (fun r17 σ18 => if r17 = 0 then (some (0, σ18)) else (some (1, σ18)))) else (some (0, σ))))) := by
      unfold Li_act
      rw [ix_nI (by omega) (by omega), chk_true, tn_nI (by omega), e4, bnd_x, chk_true, d1, k, if_neg (by decide), if_pos (show nI 15 = 15 from rfl)]
    by_cases z1 : wh t < s.1
    · rw [if_pos (by rw [ix_nI z1 (by omega)])] at hth
      rw [hpre, hth, bd_s, if_neg (by decide), isOn_n h.1 w (by omega), bd_s]
      by_cases z : s.2.1.testBit (wh t) = true
      · rw [if_pos z, if_neg (by decide), if_neg (show ¬ (wh t < s.1 ∧ ¬ s.2.1.testBit (wh t) = true) from fun y => y.2 z)]
        exact ⟨σ, rfl, h⟩
      · obtain ⟨τ, t1, t2⟩ := flipC h hA w z1
        rw [if_neg z, if_pos rfl, t1, bd2_s, if_neg (by decide), if_pos (show (wh t < s.1 ∧ ¬ s.2.1.testBit (wh t) = true) from ⟨z1, z⟩)]
        exact ⟨τ, rfl, t2⟩
    · have hnx : ¬ ix (nI (wh t)) s.1 = true := fun e => by
        obtain ⟨j, j1, j2, j3⟩ := ix_ex e
        have := (eq_nI (by omega) (by omega)).mp j2
        omega
      rw [if_neg hnx] at hth
      rw [hpre, hth, bd_s, if_pos rfl, if_neg (show ¬ (wh t < s.1 ∧ ¬ s.2.1.testBit (wh t) = true) from fun y => z1 y.1)]
      exact ⟨σ, rfl, h⟩
  · have ep : pact od (kd t) (wh t) (nu t) s q = if nu t = 0 then (false, s, q) else (true, pslide s (nu t), inc q 3) := by unfold pact; rw [if_neg (by omega), if_neg (by omega), if_pos k]
    have e5 : σ.1 (15 + 5) t = nI (nu t) := d5 (by unfold wantsN; omega)
    have hnu := hw.2.2.2.2.2.1 k
    rw [ep]
    have hpre : Li_act σ a0 a1 15 (nI t) = (if nI (nu t) = 0 then (some (0, σ)) else (bd2 (Li_slide σ a0 a1 (nI (nu t))) (fun r26 σ27 => if r26 = 0 then (some (0, σ27)) else (some (1, σ27))))) := by
      unfold Li_act
      rw [ix_nI (by omega) (by omega), chk_true, tn_nI (by omega), bnd_x, chk_true, d1, k, if_neg (by decide), if_neg (by decide), chk_true, chk_true, e5]
    by_cases z : nu t = 0
    · rw [hpre, if_pos (by rw [z]; rfl), if_pos z]
      exact ⟨σ, rfl, h⟩
    · obtain ⟨τ, t1, t2⟩ := slideC h hA w hnu
      rw [hpre, if_neg (by rw [show (0 : Int32) = nI 0 from rfl, eq_nI (by omega) (by omega)]; exact z), t1, bd2_s, if_neg (by decide), if_neg z]
      exact ⟨τ, rfl, t2⟩
end FOLa
