section CDY
variable {n : Nat} {bt : Nat → Nat} {c od on : Nat} {rs md nm : Nat → Nat}
def Adf (a i : Nat) : Prop := (a = 0 ∧ i = 0) ∨ (2 ≤ a ∧ a ≤ 6 ∧ ¬ a = 3) ∨ (22 ≤ a ∧ a ≤ 28)
def DayOk (σ1 τ1 : St) : Prop := ∃ (m : Nat) (kd te sg wh nu pa : Nat → Nat), DVc σ1 15 m kd te sg wh nu pa ∧ DVm τ1 0 m kd te sg wh nu pa ∧ WD m kd te sg wh nu pa
def DayAll (σ σ1 τ0 τ1 : St) : Prop := σ1.1 0 0 = τ1.1 92 2 ∧ σ1.1 2 9 = τ1.1 92 16 ∧ σ1.1 2 10 = τ1.1 92 17 ∧ σ1.1 2 1 = 0 ∧ τ1.1 92 10 = 0 ∧ Fp (fun a j => AM a j ∨ A9d a j) τ0 τ1
theorem days_run {σ τ0 : St} {N : Nat} (hC : CV σ 7 c od on rs md nm) (hMV : MV τ0 0 0 c od on rs md nm) (w : WF c od on rs md nm) (hN : σ.1 2 1 = nI N) (hM : τ0.1 92 10 = nI N) (hN9 : N ≤ 900) (hn : n ≤ N) (hn3 : n ≤ 300) (hc : ∀ k, k < n → vp_nar .byte (σ.1 3 k) = σ.1 3 k ∧ ub (σ.1 3 k) = bt k) (hm : ∀ k, k < n → vp_nar .byte (τ0.1 98 k) = τ0.1 98 k ∧ ub (τ0.1 98 k) = bt k) : ∃ r σ1 τ1, RC_days σ (nI n) = some (r, σ1) ∧ Mo_days τ0 (nI n) = some (r, τ1) ∧ DayAll σ σ1 τ0 τ1 ∧ (DayOk σ1 τ1 ∨ (Fp Adf σ σ1 ∧ Fp AM τ0 τ1)) := by
  obtain ⟨α, a1, a2, a3, a4, a5, a6, a7⟩ := begin_n (σ := σ) (bt := bt) (n := n) (by omega) hc
  have Fα := fp_Re_begin (A := Adf) (Fp.rf (σ := σ)) (by unfold Adf; omega) (by unfold Adf; omega) (by unfold Adf; omega) (by unfold Adf; omega) (by unfold Adf; omega) (by unfold Adf; omega) (fun i => by unfold Adf; omega) (fun i => by unfold Adf; omega) (fun i => by unfold Adf; omega) _ a1
  obtain ⟨β, b1, b2⟩ := begins_n (lim := 300) hM hN9 hn hn3 (by omega) hm
  obtain ⟨γ, hγ⟩ : ∃ γ, γ = wI (wI (wI β 93 1618 0) 92 21 0) 92 22 0 := ⟨_, rfl⟩
  have F5 : Fp (fun a j => (a = 93 ∧ j = 1618) ∨ (a = 92 ∧ (j = 21 ∨ j = 22))) β γ := by
    rw [hγ]
    exact Fp.wI (A := fun a j => (a = 93 ∧ j = 1618) ∨ (a = 92 ∧ (j = 21 ∨ j = 22))) (Fp.wI (A := fun a j => (a = 93 ∧ j = 1618) ∨ (a = 92 ∧ (j = 21 ∨ j = 22))) (Fp.wI (A := fun a j => (a = 93 ∧ j = 1618) ∨ (a = 92 ∧ (j = 21 ∨ j = 22))) (Fp.rf (A := fun a j => (a = 93 ∧ j = 1618) ∨ (a = 92 ∧ (j = 21 ∨ j = 22)))) (by omega)) (by omega)) (by omega)
  have pm : PM τ0 γ bt n 0 := b2.kp F5 (fun i => by omega) (fun i _ _ => by omega) (fun a j q => by unfold AM; omega)
  obtain ⟨α2, hα2⟩ : ∃ α2, α2 = wI (wI (wI α 22 6 0) 22 7 0) 22 8 0 := ⟨_, rfl⟩
  have Fα2 : Fp (fun a j => a = 22) α α2 := by
    rw [hα2]
    exact Fp.wI (A := fun a j => a = 22) (Fp.wI (A := fun a j => a = 22) (Fp.wI (A := fun a j => a = 22) (Fp.rf (A := fun a j => a = 22)) rfl) rfl) rfl
  have pc : PC α2 bt n 0 := PC.kp (k := 0) ⟨by omega, a2, a3, Nat.zero_le _, a4, a5, a6⟩ Fα2 (fun i => by omega) (by omega)
  have hC2 : CV α2 7 c od on rs md nm := hC.keep ((Fα.sm (fun b i _ _ q => by unfold Adf at q; omega)).tr' (Fα2.sm (fun b i _ _ q => by omega)))
  have hQ : DQ α2 γ 0 0 0 (fun _ => 0) (fun _ => 0) (fun _ => 0) (fun _ => 0) (fun _ => 0) (fun _ => 0) (fun _ => 0) := by
    refine ⟨?_, ?_, ?_, ?_, ?_, by omega, by omega, by omega, fun i hi => absurd hi (Nat.not_lt_zero _), fun i hi => absurd hi (Nat.not_lt_zero _), SW.zero⟩
    · rw [hα2, wI_ne (by omega), wI_ne (by omega), wI_s]; rfl
    · rw [hα2, wI_ne (by omega), wI_s]; rfl
    · rw [hγ, wI_ne (by omega), wI_ne (by omega), wI_s]; rfl
    · rw [hγ, wI_ne (by omega), wI_s]; rfl
    · rw [hγ, wI_s]; rfl
  have cpre : ∀ {x : Option (Int32 × St)}, iter (fun s : (Int32 × Int32 × St) => DT_take_L9 7 22 s.2.2 s.1 s.2.1) FUEL (tp 0 (fun _ => 0), nI 0, α2) = x → DT_take α 7 22 = x := fun {x} q => by
    unfold DT_take Da_clear
    rw [bnd_x, bnd_x, bnd_x, ← hα2, bd_s]; exact q
  have hwin : RC_within (nI n).toInt64 0 ((jmin (σ.1 2 1) 300).toInt64) = some 1 := by
    rw [hN, show (300 : Int32) = nI 300 from rfl, jmin_nI (by omega) (by omega)]
    exact within_y (by omega) (by omega)
  have mpre : ∀ {y : St}, iter (fun s : (Int32 × St) => Mo_days_L38 s.2 s.1) FUEL (1, γ) = some y → Mo_days τ0 (nI n) = Mo_days_J57 y := fun {y} q => by
    unfold Mo_days
    rw [show (300 : Int32) = nI 300 from rfl, b1, bd2_s, if_neg (by decide), show ix 1618 2060 = true by decide, chk_true, show tn 1618 = 1618 from rfl, bnd_x, bnd_x, bnd_x, ← hγ, q, bd_s]
  have hf := FUEL_ge
  have hnT := (nT_p (n := n) (bt := bt)).1
  have fpT : ∀ {x : Int32 × St}, DT_take α 7 22 = some x → Fp Adf α x.2 ∧ x.2.1 2 1 = α.1 2 1 := fun {x} q => ⟨(fp_DT_take (A := Adf) (Fp.rf (σ := α)) (by intros; unfold Adf; omega) (by intros; unfold Adf; omega) (by intros; unfold Adf; omega) (by intros; unfold Adf; omega) (by intros; unfold Adf; omega) (by intros; unfold Adf; omega) (by intros; unfold Adf; omega) (by intros; unfold Adf; omega) (by intros; unfold Adf; omega) (by intros; unfold Adf; omega) (by intros; unfold Adf; omega) (by intros; unfold Adf; omega) (by intros; unfold Adf; omega) _ q).2, ((fp_DT_take (A := fun a j => ¬ (a = 2 ∧ j = 1)) (Fp.rf (σ := α)) (by intros; omega) (by intros; omega) (by intros; omega) (by intros; omega) (by intros; omega) (by intros; omega) (by intros; omega) (by intros; omega) (by intros; omega) (by intros; omega) (by intros; omega) (by intros; omega) (by intros; omega) _ q).2).i (by omega)⟩
  rcases dayLoop (τ0 := τ0) (bt := bt) (n := n) hMV w hn3 n 0 α2 γ 0 FUEL FUEL 0 0 0 (fun _ => 0) (fun _ => 0) (fun _ => 0) (fun _ => 0) (fun _ => 0) (fun _ => 0) (fun _ => 0) (by omega) ⟨pc, pm⟩ hC2 hQ (by omega) (by omega) (by omega) with ⟨σ', τ', e1, e2, ⟨k', hk⟩, m, st, stk, kd, te, sg, wh, nu, pa, hD⟩ | ⟨σ', τ', τ2, e1, e2, e3, e, q1, q7, q3, q4, q5, q6, q8⟩
  · obtain ⟨Ft, Ft2⟩ := fpT (cpre e1)
    have Ft2 : (wI σ' 22 8 1).1 2 1 = α.1 2 1 := Ft2
    obtain ⟨δ, d1, d2, d3, d4⟩ := copyD_n (σ := wI σ' 22 8 1) (a := 15) (b := 22) (by omega) (by rw [wI_s]; decide)
    have d7 := copyD7 (by omega) d1
    have Fδ : Fp (fun a i => 15 ≤ a ∧ a ≤ 21) (wI σ' 22 8 1) δ := fp_Da_copyFrom Fp.rf (by intros; omega) (by intros; omega) (by intros; omega) (by intros; omega) (by intros; omega) (by intros; omega) (by intros; omega) (by intros; omega) (by intros; omega) _ d1
    have hD' := hD
    obtain ⟨x1, x2, x3, x4, x5, _⟩ := hD'
    obtain ⟨μ, m1, m2, m3, m4, m5, m6⟩ := dayJ hk.2.2.1 x3 x5
    have y2 : ∀ j, ¬ (j = 2 ∨ j = 16) → μ.1 92 j = τ'.1 92 j := fun j hj => m6.i (by unfold A9d; omega)
    have z2 : ∀ j, δ.1 2 j = σ'.1 2 j := fun j => (Fδ.i (by omega)).trans (wI_ne (by omega))
    have hdd := day_done hD (σ1 := wI δ 0 0 0) (τ1 := μ) (by rw [wI_ne (by omega), d2, wI_s]) (by rw [wI_ne (by omega), d3, wI_ne (by omega)]) (fun j k j1 j2 k1 => by rw [wI_ne (by omega), d4 j k j1 j2 k1, wI_ne (by omega)]) m2 m3
    refine ⟨nI st, wI δ 0 0 0, μ, ?_, ?_, ⟨?_, ?_, ?_, ?_, ?_, ?_⟩, Or.inl ⟨m, kd, te, sg, wh, nu, pa, hdd⟩⟩
    · unfold RC_days
      rw [hwin, bd_s, if_neg (by decide), a1, bd_s, cpre e1, bd2_s, if_neg (by decide), d1, bd_s, d7, show (wI σ' 22 8 1).1 22 7 = nI st from (wI_ne (by omega)).trans x2, RC_answer_n, bd2_s]
    · rw [mpre e2]
      unfold Mo_days_J57
      rw [if_pos hk.2.2.1, x4, if_pos (by decide)]
      exact m1
    · rw [m5, wI_s]
    · rw [wI_ne (by omega), z2, m4]; exact hk.1.2.2.2.2.2.1
    · rw [wI_ne (by omega), z2, y2 17 (by omega), hk.1.2.2.2.2.2.2]; exact hk.2.2.2.1.symm
    · rw [wI_ne (by omega), z2, ← a7, ← Ft2, wI_ne (by omega)]
    · rw [y2 10 (by omega)]; exact hk.2.2.2.2.2
    · exact (hk.2.2.2.2.1.mono (fun a j q => Or.inl q)).tr (m6.mono (fun a j q => Or.inr q))
  · obtain ⟨Ft, Ft2⟩ := fpT (cpre e1)
    have Ft2 : σ'.1 2 1 = α.1 2 1 := Ft2
    have F9 : Fp AM τ0 (wI (wI τ2 92 16 (nI e)) 92 2 9) := Fp.wI (A := AM) (Fp.wI (A := AM) q6 (by unfold AM; omega)) (by unfold AM; omega)
    refine ⟨-1, wI σ' 0 0 9, wI (wI τ2 92 16 (nI e)) 92 2 9, ?_, (mpre e2).trans (e3.trans (dayF q1 q7 q4)), ⟨?_, ?_, ?_, ?_, ?_, ?_⟩, Or.inr ⟨?_, F9⟩⟩
    · unfold RC_days
      rw [hwin, bd_s, if_neg (by decide), a1, bd_s, cpre e1, bd2_s, if_pos rfl, RC_refuse_n, bd2_s]
    · rw [wI_s, wI_s]
    · rw [wI_ne (by omega), wI_ne (by omega), wI_s]; exact q3
    · rw [wI_ne (by omega), wI_ne (by omega), wI_ne (by omega)]; exact q5
    · rw [wI_ne (by omega), Ft2]; exact a7
    · rw [wI_ne (by omega), wI_ne (by omega)]; exact q8
    · exact F9.mono (fun a j q => Or.inl q)
    · exact Fp.wI (A := Adf) (Fα.tr Ft) (by unfold Adf; omega)
end CDY
