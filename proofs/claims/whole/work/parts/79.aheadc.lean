section AHC
variable {n : Nat} {bt : Nat → Nat}
def A4 (a j : Nat) : Prop := a = 92 ∧ 12 ≤ j ∧ j ≤ 15
theorem ATl_n {σ : St} (h : TxM σ n bt) {s : Nat} (hs : s ≤ n) (h14 : σ.1 92 14 = nI s) : ∃ σ', ATl σ = some σ' ∧ Fp A4 σ σ' ∧ σ'.1 92 13 = nI s ∧ σ'.1 92 14 = nI (tkE bt n s) ∧ σ'.1 92 12 = nI (tkR bt n s) ∧ (s < n → σ'.1 92 15 = nI (tkV bt n s)) := by
  have hn := h.1
  have F1 : Fp A4 σ (wI σ 92 13 (nI s)) := Fp.wI (A := A4) (Fp.rf (A := A4)) (by unfold A4; omega)
  have e14 : (wI σ 92 13 (nI s)).1 92 14 = nI s := (wI_ne (by omega)).trans h14
  have hb := byteAt_n (h.k F1 ⟨by unfold A4; omega, fun i => by unfold A4; omega⟩) (k := s) (by omega)
  unfold tkE tkR tkV
  by_cases z : s < n
  · have hb2 := (h.2.2 s z).1
    rw [if_pos z] at hb
    rw [if_pos z, if_pos z]
    have F2 : Fp A4 σ (wI (wI σ 92 13 (nI s)) 92 15 (nI (bt s))) := Fp.wI (A := A4) F1 (by unfold A4; omega)
    have g14 : (wI (wI σ 92 13 (nI s)) 92 15 (nI (bt s))).1 92 14 = nI s := (wI_ne (by omega)).trans e14
    have g13 : (wI (wI σ 92 13 (nI s)) 92 15 (nI (bt s))).1 92 13 = nI s := (wI_ne (by omega)).trans wI_s
    have g15 : (wI (wI σ 92 13 (nI s)) 92 15 (nI (bt s))).1 92 15 = nI (bt s) := wI_s
    obtain ⟨u, hu⟩ : ∃ u, u = wI (wI σ 92 13 (nI s)) 92 15 (nI (bt s)) := ⟨_, rfl⟩
    have hm1 : ¬ nI (bt s) = -1 := nI_m1 (by omega)
    rw [← hu] at F2 g14 g13 g15
    have hT : TxM u n bt := h.k F2 ⟨by unfold A4; omega, fun i => by unfold A4; omega⟩
    by_cases l : ltr bt s = true
    · have l' : 97 ≤ bt s ∧ bt s ≤ 122 := by unfold ltr at l; simpa using l
      obtain ⟨τ, t1, t2, t3⟩ := wordsM hT hs g14
      rw [if_pos l, if_pos l]
      refine ⟨wI τ 92 12 2, ?_, Fp.wI (A := A4) (F2.tr (t3.mono (fun a j q => by unfold A4; omega))) (by unfold A4; omega), (wI_ne (by omega)).trans ((t3.i (by omega)).trans g13), (wI_ne (by omega)).trans t2, wI_s, fun _ => ?_⟩
      · unfold ATl
        rw [h14, bnd_x, e14, hb, bd_s, bnd_x, ← hu, if_neg hm1, letter_m hb2, bd_s, if_pos l', if_neg (by decide), t1, bd_s, bnd_x]
      · rw [if_neg (fun d => by unfold dgt at d; have : 48 ≤ bt s ∧ bt s ≤ 57 := by simpa using d
                                omega)]
        exact (wI_ne (by omega)).trans ((t3.i (by omega)).trans g15)
    · have l' : ¬ (97 ≤ bt s ∧ bt s ≤ 122) := fun e => l (by unfold ltr; simpa using e)
      rw [if_neg l, if_neg l]
      by_cases d : dgt bt s = true
      · have d' : 48 ≤ bt s ∧ bt s ≤ 57 := by unfold dgt at d; simpa using d
        have F3 : Fp A4 σ (wI u 92 15 0) := Fp.wI (A := A4) F2 (by unfold A4; omega)
        obtain ⟨τ, t1, t2, t3, t4⟩ := numsM (h.k F3 ⟨by unfold A4; omega, fun i => by unfold A4; omega⟩) hs ((wI_ne (by omega)).trans g14) wI_s
        have e13 : τ.1 92 13 = nI s := (t4.i (by omega)).trans ((wI_ne (by omega)).trans g13)
        obtain ⟨b1, b2, b3, b4⟩ := scan_b (p := dgt bt) (n := n) (n - s) s (Nat.le_refl _) hs
        have F5 : Fp A4 σ τ := F3.tr (t4.mono (fun a j q => by unfold A4; omega))
        have hpre : ATl σ = if nI (scan (dgt bt) n s - s) ≤ 4 then some (wI τ 92 12 3) else some (wI τ 92 12 1) := by
          unfold ATl
          rw [h14, bnd_x, e14, hb, bd_s, bnd_x, ← hu, if_neg hm1, letter_m hb2, bd_s, if_neg l', if_pos rfl, digit_m hb2, bd_s, if_pos d', if_neg (by decide), bnd_x, t1, bd_s, t2, e13, sub_nI b1, bnd_x, bnd_x]
        rw [if_pos d, if_pos d, if_pos d]
        by_cases c : scan (dgt bt) n s - s ≤ 4
        · rw [if_pos c]
          refine ⟨wI τ 92 12 3, ?_, Fp.wI (A := A4) F5 (by unfold A4; omega), (wI_ne (by omega)).trans e13, (wI_ne (by omega)).trans t2, wI_s, fun _ => (wI_ne (by omega)).trans t3⟩
          rw [hpre, if_pos (show nI (scan (dgt bt) n s - s) ≤ 4 by rw [show (4 : Int32) = nI 4 from rfl, le_nI (by omega) (by omega)]; exact c)]
        · rw [if_neg c]
          refine ⟨wI τ 92 12 1, ?_, Fp.wI (A := A4) F5 (by unfold A4; omega), (wI_ne (by omega)).trans e13, (wI_ne (by omega)).trans t2, wI_s, fun _ => (wI_ne (by omega)).trans t3⟩
          rw [hpre, if_neg (show ¬ nI (scan (dgt bt) n s - s) ≤ 4 by rw [show (4 : Int32) = nI 4 from rfl, le_nI (by omega) (by omega)]; exact c)]
      · have d' : ¬ (48 ≤ bt s ∧ bt s ≤ 57) := fun e => d (by unfold dgt; simpa using e)
        rw [if_neg d, if_neg d, if_neg d]
        have F3 : Fp A4 σ (wI u 92 14 (nI (s + 1))) := Fp.wI (A := A4) F2 (by unfold A4; omega)
        have hpre : ATl σ = if sgn (bt s) = true then some (wI (wI u 92 14 (nI (s + 1))) 92 12 4) else some (wI (wI u 92 14 (nI (s + 1))) 92 12 1) := by
          unfold ATl
          rw [h14, bnd_x, e14, hb, bd_s, bnd_x, ← hu, if_neg hm1, letter_m hb2, bd_s, if_neg l', if_pos rfl, digit_m hb2, bd_s, if_neg d', if_pos rfl, g14, nI_1, bnd_x, bnd_x, bnd_x, show (59 : Int32) = nI 59 from rfl, show (60 : Int32) = nI 60 from rfl, show (61 : Int32) = nI 61 from rfl, show (62 : Int32) = nI 62 from rfl]
          have eq : ∀ c : Nat, c < 256 → ((nI (bt s) = nI c) ↔ bt s = c) := fun c hc => by rw [eq_nI (by omega) (by omega)]
          by_cases c59 : bt s = 59
          · rw [if_pos ((eq 59 (by omega)).mpr c59), if_pos (by unfold sgn; simp [c59])]
          · rw [if_neg (fun e => c59 ((eq 59 (by omega)).mp e))]
            by_cases c60 : bt s = 60
            · rw [if_pos ((eq 60 (by omega)).mpr c60), if_pos (by unfold sgn; simp [c60])]
            · rw [if_neg (fun e => c60 ((eq 60 (by omega)).mp e))]
              by_cases c62 : bt s = 62
              · rw [if_pos ((eq 62 (by omega)).mpr c62), if_pos (by unfold sgn; simp [c62])]
              · rw [if_neg (fun e => c62 ((eq 62 (by omega)).mp e))]
                by_cases c61 : bt s = 61
                · rw [if_pos ((eq 61 (by omega)).mpr c61), if_pos (by unfold sgn; simp [c61])]
                · rw [if_neg (fun e => c61 ((eq 61 (by omega)).mp e)), if_neg (by unfold sgn; simp [c59, c60, c61, c62])]
        by_cases c : sgn (bt s) = true
        · rw [if_pos c] at hpre ⊢
          exact ⟨_, hpre, Fp.wI (A := A4) F3 (by unfold A4; omega), (wI_ne (by omega)).trans ((wI_ne (by omega)).trans g13), (wI_ne (by omega)).trans wI_s, wI_s, fun _ => (wI_ne (by omega)).trans ((wI_ne (by omega)).trans g15)⟩
        · rw [if_neg c] at hpre ⊢
          exact ⟨_, hpre, Fp.wI (A := A4) F3 (by unfold A4; omega), (wI_ne (by omega)).trans ((wI_ne (by omega)).trans g13), (wI_ne (by omega)).trans wI_s, wI_s, fun _ => (wI_ne (by omega)).trans ((wI_ne (by omega)).trans g15)⟩
  · rw [if_neg z] at hb
    rw [if_neg z, if_neg z]
    refine ⟨wI (wI (wI σ 92 13 (nI s)) 92 15 (-1)) 92 12 0, ?_, Fp.wI (A := A4) (Fp.wI (A := A4) F1 (by unfold A4; omega)) (by unfold A4; omega), ?_, ?_, wI_s, fun y => absurd y z⟩
    · unfold ATl
      rw [h14, bnd_x, e14, hb, bd_s, bnd_x, if_pos rfl, bnd_x]
    · rw [wI_ne (by omega), wI_ne (by omega), wI_s]
    · rw [wI_ne (by omega), wI_ne (by omega)]; exact e14
end AHC
