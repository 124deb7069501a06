section LIO
variable {σ : St} {od n : Nat} {kd te sg wh nu pa : Nat → Nat} {s : Nat × Nat × (Nat → Nat) × (Nat → Nat) × (Nat → Nat)} {q R : Nat → Nat}
theorem sub900 {x : Nat} : nI (900 + x) - 900 = nI x := by rw [show (900 : Int32) = nI 900 from rfl, sub_nI (by omega), show 900 + x - 900 = x by omega]
noncomputable def MHB (σ : St) (t k : Nat) : Option (Int32 × St) := if nI k = 5 then (bd (Mo_isClass σ (σ.1 93 (41 + 6 * t))) (fun r29 => if r29 = 0 then (some (0, σ)) else (bd (Mo_isOn σ (σ.1 93 (41 + 6 * t))) (fun r31 => if r31 = 0 then (some (0, σ)) else (some (1, σ)))))) else (if nI k = 11 then (bd (Mo_catchers σ (σ.1 93 (42 + 6 * t))) (fun r25 => if r25 = 0 then (some (0, σ)) else (some (1, σ)))) else (bd2 (Mo_laysNow σ) (fun r6 σ7 => if r6 = 0 then (some (0, σ7)) else (bd (Mo_justBy σ7 0) (fun r9 => if nI k = 10 then (if r9 = 0 then (some (1, σ7)) else (some (0, σ7))) else ((if (σ7.1 93 (45 + 6 * t)) = 60 then ((if (σ7.1 93 (42 + 6 * t)) ≤ r9 then (some (0, σ7)) else (some (1, σ7)))) else ((if (σ7.1 93 (45 + 6 * t)) = 62 then ((if r9 ≤ (σ7.1 93 (42 + 6 * t)) then (some (0, σ7)) else (some (1, σ7)))) else ((if r9 = (σ7.1 93 (42 + 6 * t)) then (some (1, σ7)) else (some (0, σ7)))))))))))))
theorem MHB_pre {t k : Nat} (ht : t < 60) (h : σ.1 93 (40 + 6 * t) = nI (900 + k)) : Mo_holds σ (nI (40 + 6 * t)) = MHB σ t k := by
  have i2 : ix (nI (42 + 6 * t)) 2060 = true := ix_nI (by omega) (by omega)
  have i5 : ix (nI (45 + 6 * t)) 2060 = true := ix_nI (by omega) (by omega)
  have t2 : tn (nI (42 + 6 * t)) = 42 + 6 * t := tn_nI (by omega)
  have t5 : tn (nI (45 + 6 * t)) = 45 + 6 * t := tn_nI (by omega)
  unfold Mo_holds MHB
  rw [ix_nI (by omega) (by omega), chk_true, tn_nI (show 40 + 6 * t < 2147483648 by omega), h, sub900, bnd_x, at1, ix_nI (by omega) (by omega), chk_true, tn_nI (show 41 + 6 * t < 2147483648 by omega), bnd_x]
  simp only [at2, at5, i2, i5, t2, t5, chk_true]
theorem holdsM (h : MVt σ od s) (w : WFt od s) (D : DVm σ 0 n kd te sg wh nu pa) (wd : WD n kd te sg wh nu pa) {t : Nat} (ht : t < n) (hk : kd t = 19) : ∃ σ', Mo_holds σ (nI (40 + 6 * t)) = some ((if ptst (te t) (sg t) (wh t) (nu t) s = true then 1 else 0), σ') ∧ Fp Aly σ σ' := by
  have hn := wd.1
  have hc : s.1 ≤ 12 := w.1
  have hw := wd.2 t ht
  have hwh := hw.2.2.2.1
  have dk := D.k ht
  rw [if_pos hk] at dk
  have pre : ∀ {m : Nat}, 890 + te t = 900 + m → Mo_holds σ (nI (40 + 6 * t)) = MHB σ t m := fun e => MHB_pre (by omega) (dk.trans (congrArg nI e))
  unfold ptst
  rcases hw.2.1 hk with k | k | k | k
  · rw [pre (m := 5) (by omega), if_pos k]
    unfold MHB
    rw [if_pos (show nI 5 = 5 from rfl), D.w ht (by unfold wantsW; omega)]
    refine ⟨σ, ?_, Fp.rf⟩
    by_cases z : wh t < s.1
    · rw [isCl1 h w z, bd_s, if_neg (by decide), isOnM_n h w z, bd_s]
      by_cases y : s.2.1.testBit (wh t) = true
      · rw [if_pos y, if_neg (by decide)]
      · rw [if_neg y, if_pos rfl]
    · rw [isCl0 h w z (by omega), bd_s, if_pos rfl, if_neg (fun y => z (w.lt y))]
  · rw [pre (m := 10) (by omega), k, if_neg (show ¬ (20 : Nat) = 15 by decide), if_pos (show (20 : Nat) = 20 from rfl)]
    unfold MHB
    rw [if_neg (by decide), if_neg (by decide)]
    by_cases h0 : spn s.2.2.2.1 s.2.1 s.1 = 0
    · rw [laysNow_0 h w h0, bd2_s, if_pos rfl, if_neg (show ¬ decide (¬ spn s.2.2.2.1 s.2.1 s.1 = 0 ∧ gpn s.1 s.2.1 s.2.2.1 s.2.2.2.1 (spn s.2.2.2.1 s.2.1 s.1) = 0) = true by simp [h0])]
      exact ⟨_, rfl, Fp.wI (A := Aly) (Fp.rf (A := Aly)) (by unfold Aly; omega)⟩
    · obtain ⟨p1, p2⟩ := spn_pos h0
      obtain ⟨υ, t1, t2, t3, t4, t5⟩ := laysNow_n h w h0
      have hg := gpn_le s.1 s.2.1 s.2.2.1 s.2.2.2.1 (spn s.2.2.2.1 s.2.1 s.1)
      refine ⟨υ, ?_, t2⟩
      rw [t1, bd2_s, if_neg (by decide), gaps_m hc p2 t4 t5, bd_s, if_pos (show nI 10 = 10 from rfl)]
      by_cases z : gpn s.1 s.2.1 s.2.2.1 s.2.2.2.1 (spn s.2.2.2.1 s.2.1 s.1) = 0
      · rw [if_pos (by rw [z]; rfl), if_pos (decide_eq_true ⟨h0, z⟩)]
      · rw [if_neg (by rw [show (0 : Int32) = nI 0 from rfl, eq_nI (by omega) (by omega)]; exact z), if_neg (show ¬ decide (¬ spn s.2.2.2.1 s.2.1 s.1 = 0 ∧ gpn s.1 s.2.1 s.2.2.1 s.2.2.2.1 (spn s.2.2.2.1 s.2.1 s.1) = 0) = true by simp [z])]
  · have hnu := hw.2.2.2.2.1
    have hcs : cset s.1 s.2.1 s.2.2.1 s.2.2.2.1 (nu t) < 4096 := cset_4 hc
    rw [pre (m := 11) (by omega), k, if_neg (show ¬ (21 : Nat) = 15 by decide), if_neg (show ¬ (21 : Nat) = 20 by decide), if_pos (show (21 : Nat) = 21 from rfl)]
    unfold MHB
    rw [if_neg (by decide), if_pos (show nI 11 = 11 from rfl), D.u ht (by unfold wantsN; omega), catchersM_n h w (by omega), bd_s]
    refine ⟨σ, ?_, Fp.rf⟩
    by_cases z : cset s.1 s.2.1 s.2.2.1 s.2.2.2.1 (nu t) = 0
    · rw [if_pos (by rw [z]; rfl), if_neg (show ¬ (!decide (cset s.1 s.2.1 s.2.2.1 s.2.2.2.1 (nu t) = 0)) = true by simp [z])]
    · rw [if_neg (by rw [show (0 : Int32) = nI 0 from rfl, eq_nI (by omega) (by omega)]; exact z), if_pos (show (!decide (cset s.1 s.2.1 s.2.2.1 s.2.2.2.1 (nu t) = 0)) = true by simp [z])]
  · have e5 := D.u ht (by unfold wantsN; omega)
    have e3 := D.g ht hk k
    have hnu := hw.2.2.2.2.1
    have hsg := hw.2.2.1 hk k
    rw [pre (m := 12) (by omega), k, if_neg (show ¬ (22 : Nat) = 15 by decide), if_neg (show ¬ (22 : Nat) = 20 by decide), if_neg (show ¬ (22 : Nat) = 21 by decide)]
    unfold MHB
    rw [if_neg (by decide), if_neg (by decide)]
    by_cases h0 : spn s.2.2.2.1 s.2.1 s.1 = 0
    · rw [laysNow_0 h w h0, bd2_s, if_pos rfl, decide_eq_true h0]
      exact ⟨_, rfl, Fp.wI (A := Aly) (Fp.rf (A := Aly)) (by unfold Aly; omega)⟩
    · obtain ⟨p1, p2⟩ := spn_pos h0
      obtain ⟨υ, t1, t2, t3, t4, t5⟩ := laysNow_n h w h0
      have hg := gpn_le s.1 s.2.1 s.2.2.1 s.2.2.2.1 (spn s.2.2.2.1 s.2.1 s.1)
      have e5' : υ.1 93 (42 + 6 * t) = nI (nu t) := (t2.i (by unfold Aly; omega)).trans e5
      have e3' : υ.1 93 (45 + 6 * t) = nI (sgM (sg t)) := (t2.i (by unfold Aly; omega)).trans e3
      refine ⟨υ, ?_, t2⟩
      rw [t1, bd2_s, if_neg (by decide), gaps_m hc p2 t4 t5, bd_s, if_neg (by decide), e5', e3', decide_eq_false h0]
      generalize gpn s.1 s.2.1 s.2.2.1 s.2.2.2.1 (spn s.2.2.2.1 s.2.1 s.1) = G at hg
      unfold cmpb
      rcases hsg with g | g | g
      · rw [g, if_pos (by decide), if_pos rfl]
        by_cases z : G < nu t
        · rw [if_neg (by rw [le_nI (by omega) (by omega)]; omega), decide_eq_true z]; rfl
        · rw [if_pos (by rw [le_nI (by omega) (by omega)]; omega), decide_eq_false z]; rfl
      · rw [g, if_neg (by decide), if_pos (by decide), if_neg (show ¬ (7 : Nat) = 6 by decide), if_pos rfl]
        by_cases z : nu t < G
        · rw [if_neg (by rw [le_nI (by omega) (by omega)]; omega), decide_eq_true z]; rfl
        · rw [if_pos (by rw [le_nI (by omega) (by omega)]; omega), decide_eq_false z]; rfl
      · rw [g, if_neg (by decide), if_neg (by decide), if_neg (show ¬ (8 : Nat) = 6 by decide), if_neg (show ¬ (8 : Nat) = 7 by decide)]
        by_cases z : G = nu t
        · rw [if_pos (by rw [z]), decide_eq_true z]; rfl
        · rw [if_neg (by rw [eq_nI (by omega) (by omega)]; omega), decide_eq_false z]; rfl
end LIO
