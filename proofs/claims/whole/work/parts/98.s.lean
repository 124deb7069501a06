section CDX
def Bd (a j : Nat) : Prop := AM a j ∨ A9d a j
theorem call_days {σ : St} (I : Inv σ) (B : ByT σ) (p : Int32) : Call (fun s => RC_days s p) (fun s => Mo_days s p) σ := by
  obtain ⟨N, n1, n2, n3, n4⟩ := I.2.2.2.1
  have hj : jmin (σ.1 2 1) 300 = nI (min N 300) := by rw [n2, show (300 : Int32) = nI 300 from rfl, jmin_nI (by omega) (by omega)]
  have hi : ((jmin (σ.1 2 1) 300).toInt64).toInt = ((min N 300 : Nat) : Int) := by rw [hj, Int32.toInt_toInt64, nI_toInt (by omega)]
  rcases within_ex p (lo := 0) (hi := (jmin (σ.1 2 1) 300).toInt64) 0 (min N 300) (by decide) hi (by omega) with h | ⟨n, h1, h2, rfl, h⟩
  · refine call_s (r := -1) (v := 1) I ?_ (fun σ1 F => ?_)
    · show RC_days σ p = _
      unfold RC_days
      rw [h, bd_s, if_pos rfl, RC_refuse_n, bd2_s]
    · show Mo_days σ1 p = _
      have hno : p.toInt < 0 ∨ (N : Int) < p.toInt ∨ ((300 : Nat) : Int) < p.toInt := by
        rcases within_no h with q | q
        · exact Or.inl q
        · rw [hi] at q; omega
      unfold Mo_days
      rw [show (300 : Int32) = nI 300 from rfl, begins_no (N := N) (by rw [F.i (by unfold Ac0; omega)]; exact n3) n1 (by omega) hno, bd2_s, if_pos rfl, Mo_refuse_n, bd2_s]
  · have sy := I.2.2.2.2.1
    obtain ⟨c, od, on, rs, md, nm, hC, hMV, w⟩ := sy
    have hc : ∀ k, k < n → vp_nar .byte (σ.1 3 k) = σ.1 3 k ∧ ub (σ.1 3 k) = (fun k => ub (σ.1 3 k)) k := fun k _ => ⟨B k, rfl⟩
    obtain ⟨r, σ1, τ', e1, _⟩ := days_run (τ0 := σ) (bt := fun k => ub (σ.1 3 k)) hC hMV w n2 n3 n1 (by omega) (by omega) hc (fun k hk => by rw [← n4 k (by omega)]; exact hc k hk)
    have Fc := (fp_RC_days (A := fun a i => Ard a i ∧ a < 92 ∧ ¬ (7 ≤ a ∧ a ≤ 10)) (Fp.rf (σ := σ)) (by intros; unfold Ard; omega) (by intros; unfold Ard; omega) (by intros; unfold Ard; omega) (by intros; unfold Ard; omega) (by intros; unfold Ard; omega) (by intros; unfold Ard; omega) (by intros; unfold Ard; omega) (by intros; unfold Ard; omega) (by intros; unfold Ard; omega) (by intros; unfold Ard; omega) (by intros; unfold Ard; omega) (by intros; unfold Ard; omega) (by intros; unfold Ard; omega) (by intros; unfold Ard; omega) (by intros; unfold Ard; omega) (by intros; unfold Ard; omega) (by intros; unfold Ard; omega) (by intros; unfold Ard; omega) (by intros; unfold Ard; omega) (by intros; unfold Ard; omega) (by intros; unfold Ard; omega) (by intros; unfold Ard; omega) (by intros; unfold Ard; omega) (by intros; unfold Ard; omega) (by intros; unfold Ard; omega) (by intros; unfold Ard; omega) (by intros; unfold Ard; omega) (by intros; unfold Ard; omega) (by intros; unfold Ard; omega) _ e1).2
    obtain ⟨r2, σ2, τ1, f1, f2, ⟨s1, s2, s3, s4, s5, G⟩, Q⟩ := days_run (τ0 := σ1) (bt := fun k => ub (σ.1 3 k)) hC (hMV.keep (Fc.sm (fun b i _ _ q => by omega))) w n2 ((Fc.i (by omega)).trans n3) n1 (by omega) (by omega) hc (fun k hk => by rw [Fc.i (by omega), ← n4 k (by omega)]; exact hc k hk)
    have hE : (r, σ1) = (r2, σ2) := Option.some.inj (e1.symm.trans f1)
    have hr : r = r2 := congrArg Prod.fst hE
    have hs : σ1 = σ2 := congrArg Prod.snd hE
    subst hr
    subst hs
    have G' : Fp Bd σ1 τ1 := G
    have cl : ∀ a i, a < 92 → τ1.1 a i = σ1.1 a i := fun a i ha => G'.i (by unfold Bd AM A9d; omega)
    have FF : Fp (fun a i => (Ard a i ∧ a < 92 ∧ ¬ (7 ≤ a ∧ a ≤ 10)) ∨ Bd a i) σ τ1 := (Fc.mono (fun a i q => Or.inl q)).tr (G'.mono (fun a i q => Or.inr q))
    refine ⟨r, σ1, τ1, e1, f2, inv_rd I ((Fc.mono (fun a i q => q.1)).tr (G'.mono (fun a i q => by unfold Bd AM A9d at q; unfold Ard; omega))) ?_ ⟨?_, ?_⟩ ⟨0, by omega, ?_, ?_, fun k hk => absurd hk (Nat.not_lt_zero _)⟩ ?_ ?_⟩
    · rw [cl 0 0 (by omega)]; exact s1
    · rw [cl 2 9 (by omega)]; exact s2
    · rw [cl 2 10 (by omega)]; exact s3
    · rw [cl 2 1 (by omega)]; exact s4
    · exact s5
    · exact I.2.2.2.2.1.keep2 (FF.sm (fun b i _ _ q => by unfold Bd AM A9d at q; omega)) (fun i _ => FF.i (by unfold Bd AM A9d; omega)) (fun i _ => FF.l (by unfold Bd AM A9d; omega))
    · rcases Q with ⟨m, kd, te, sg, wh, nu, pa, q1, q2, q3⟩ | ⟨q1, q2⟩
      · exact Or.inr ⟨m, kd, te, sg, wh, nu, pa, q1.keep (G'.sm (fun b i _ _ q => by unfold Bd AM A9d at q; omega)), q2, q3⟩
      · have F2 : Fp (fun a i => Adf a i ∨ AM a i) σ τ1 := (q1.mono (fun a i q => Or.inl q)).tr (q2.mono (fun a i q => Or.inr q))
        exact I.2.2.2.2.2.1.keep2 (F2.sm (fun b i _ _ q => by unfold Adf AM at q; omega)) (fun i _ => F2.i (by unfold Adf AM; omega))
end CDX
