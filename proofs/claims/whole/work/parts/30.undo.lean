theorem call_undo {σ : St} (I : Inv σ) : Call RC_undo Mo_undo σ := by
  obtain ⟨m, m1, m2, m3, m4⟩ := I.2.2.2.2.2.2.2
  by_cases hm : m = 0
  · refine call_s (r := -1) (v := 6) I ?_ (fun σ1 F => ?_)
    · unfold RC_undo
      rw [m2, if_neg (by rw [hm]; decide), RC_refuse_n, bd2_s]
    · unfold Mo_undo
      rw [F.i (by unfold Ac0; omega), m3, if_pos (by rw [hm]; rfl), Mo_refuse_n, bd2_s]
  · obtain ⟨j, rfl⟩ : ∃ j, m = j + 1 := ⟨m - 1, by omega⟩
    obtain ⟨sy, dy⟩ := m4 j (by omega)
    obtain ⟨τ, a1, a2, a3, a4, a5, a6, a7⟩ := copyC_n (σ := wI σ 0 11 (nI j)) (a := 7) (b := 59 + 11 * j) (by omega)
    have Fτ : Fp (fun a i => 7 ≤ a ∧ a ≤ 10) (wI σ 0 11 (nI j)) τ := fp_Cl_copyFrom Fp.rf (by intros; omega) (by intros; omega) (by intros; omega) (by intros; omega) (by intros; omega) (by intros; omega) _ a1
    obtain ⟨υ, b1, b2, b3, b4⟩ := copyD_n (σ := τ) (a := 15) (b := 63 + 11 * j) (by omega) (by rw [Fτ.i (by omega), wI_ne (by omega)]; exact dy.ck)
    have Fυ : Fp (fun a i => 15 ≤ a ∧ a ≤ 21) τ υ := fp_Da_copyFrom Fp.rf (by intros; omega) (by intros; omega) (by intros; omega) (by intros; omega) (by intros; omega) (by intros; omega) (by intros; omega) (by intros; omega) (by intros; omega) _ b1
    have Fc : Fp (fun a i => (a = 0 ∧ (i = 0 ∨ i = 11)) ∨ (7 ≤ a ∧ a ≤ 10) ∨ (15 ≤ a ∧ a ≤ 21)) σ (wI υ 0 0 0) := ((((Fp.rf (σ := σ)).wI (v := nI j) (show (fun a i => (a = 0 ∧ (i = 0 ∨ i = 11)) ∨ (7 ≤ a ∧ a ≤ 10) ∨ (15 ≤ a ∧ a ≤ 21)) 0 11 by omega)).tr (Fτ.mono (fun a i q => by omega))).tr (Fυ.mono (fun a i q => by omega))).wI (by omega)
    have hτ : τ.1 0 11 = nI j := (Fτ.i (by omega)).trans wI_s
    have hυ : υ.1 0 11 = nI j := (Fυ.i (by omega)).trans hτ
    have e1 : RC_undo σ = some (nI j, wI υ 0 0 0) := by
      unfold RC_undo
      rw [m2, if_pos (by rw [show (1 : Int32) = nI 1 from rfl, le_nI (by omega) (by omega)]; omega), sub1, bnd_x, wI_s, ix_nI (by omega) (by omega), chk_true, tn_nI (by omega), rfs_C, a1, bd_s, hτ, ix_nI (by omega) (by omega), chk_true, tn_nI (by omega), rfs_D, b1, bd_s, hυ, RC_answer_n, bd2_s]
    obtain ⟨ω, c1, c2, c3, c4⟩ := copies_n (σ := wI υ 0 0 0) (f := j + 1) (t := 0) (by omega) (by omega) (by omega)
    have c1' : Mo_copies (wI υ 0 0 0) (nI (j + 1)) 0 = some ω := c1
    have hm1 : (wI υ 0 0 0).1 92 38 = nI (j + 1) := (Fc.i (by omega)).trans m3
    have e2 : Mo_undo (wI υ 0 0 0) = some (nI j, wI (wI ω 92 38 (nI j)) 92 2 0) := by
      unfold Mo_undo
      rw [hm1, if_neg (by rw [show (0 : Int32) = nI 0 from rfl, eq_nI (by omega) (by omega)]; omega), c1', bd_s, c4.i (by omega), hm1, sub1, bnd_x, wI_s, Mo_gives_n, bd2_s]
    have Fm : Fp (fun a i => (a = 92 ∧ (i = 2 ∨ i = 38)) ∨ (a = 93 ∧ i < 404) ∨ (a = 94 ∧ i < 12)) (wI υ 0 0 0) (wI (wI ω 92 38 (nI j)) 92 2 0) := ((c4.mono (fun a i q => by omega)).wI (by omega)).wI (by omega)
    have s93 : ∀ k, k < 404 → (wI (wI ω 92 38 (nI j)) 92 2 0).1 93 (0 + k) = σ.1 93 (404 * (j + 1) + k) := fun k hk => by
      rw [wI_ne (by omega), wI_ne (by omega)]
      have := c2 k hk
      rw [Nat.mul_zero] at this
      rw [this, Fc.i (by omega)]
    have s94 : ∀ k, k < 12 → (wI (wI ω 92 38 (nI j)) 92 2 0).2 94 (0 + k) = σ.2 94 (12 * (j + 1) + k) := fun k hk => by
      rw [wI_2, wI_2]
      have := c3 k hk
      rw [Nat.mul_zero] at this
      rw [this, Fc.l (by omega)]
    have f1 : ∀ {b i : Nat}, b < 92 → (wI (wI ω 92 38 (nI j)) 92 2 0).1 b i = (wI υ 0 0 0).1 b i := fun h => Fm.i (by omega)
    have f2 : ∀ {b i : Nat}, b < 92 → (wI (wI ω 92 38 (nI j)) 92 2 0).2 b i = (wI υ 0 0 0).2 b i := fun h => Fm.l (by omega)
    have g1 : ∀ {b i : Nat}, 7 ≤ b → b ≤ 10 → (wI (wI ω 92 38 (nI j)) 92 2 0).1 b i = τ.1 b i := fun h1 h2 => by rw [f1 (by omega), wI_ne (by omega), Fυ.i (by omega)]
    have g2 : ∀ {b i : Nat}, 7 ≤ b → b ≤ 10 → (wI (wI ω 92 38 (nI j)) 92 2 0).2 b i = τ.2 b i := fun h1 h2 => by rw [f2 (by omega), wI_2, Fυ.l (by omega)]
    have g3 : ∀ {b i : Nat}, 15 ≤ b → b ≤ 21 → (wI (wI ω 92 38 (nI j)) 92 2 0).1 b i = υ.1 b i := fun h1 h2 => by rw [f1 (by omega), wI_ne (by omega)]
    have hF := (Fc.mono (B := fun a i => (a = 0 ∧ (i = 0 ∨ i = 11)) ∨ (7 ≤ a ∧ a ≤ 10) ∨ (15 ≤ a ∧ a ≤ 21) ∨ (a = 92 ∧ (i = 2 ∨ i = 38)) ∨ (a = 93 ∧ i < 404) ∨ (a = 94 ∧ i < 12)) (fun a i q => by omega)).tr (Fm.mono (fun a i q => by omega))
    refine ⟨_, _, _, e1, e2, inv_un I (hF.mono (fun a i q => by unfold Aun; omega)) ?_ (sy.copy (q' := 0) ?_ ?_ ?_ (fun k hk => ?_) (fun k hk => ?_) (fun k hk => ?_) s93 s94) (dy.copy ?_ ?_ (fun i k h1 h2 hk => ?_) s93) ⟨j, by omega, ?_, ?_, fun i hi => ?_⟩⟩
    · rw [f1 (by omega), wI_s, wI_s]
    · rw [g1 (by omega) (by omega), a2, wI_ne (by omega)]
    · rw [g1 (by omega) (by omega), a3, wI_ne (by omega)]
    · rw [g1 (by omega) (by omega), a4, wI_ne (by omega)]
    · rw [g1 (by omega) (by omega), a5 k hk, wI_ne (by omega)]
    · rw [g1 (by omega) (by omega), a6 k hk, wI_ne (by omega)]
    · rw [g2 (by omega) (by omega), a7 k hk, wI_2]
    · rw [g3 (by omega) (by omega), b2, Fτ.i (by omega), wI_ne (by omega)]
    · rw [g3 (by omega) (by omega), b3, Fτ.i (by omega), wI_ne (by omega)]
    · rw [g3 (by omega) (by omega), b4 i k h1 h2 hk, Fτ.i (by omega), wI_ne (by omega)]
    · rw [f1 (by omega), wI_ne (by omega)]; exact hυ
    · rw [wI_ne (by omega), wI_s]
    · obtain ⟨q1, q2⟩ := m4 i (by omega)
      exact ⟨q1.keep2 (hF.sm (fun b i q1 q2 q => by omega)) (fun i hi => hF.i (by omega)) (fun i hi => hF.l (by omega)), q2.keep2 (hF.sm (fun b i q1 q2 q => by omega)) (fun i hi => hF.i (by omega))⟩
