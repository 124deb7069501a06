section CSY
def Bm (a j : Nat) : Prop := AM a j ∨ A93 a j ∨ A94 a j
theorem call_system {σ : St} (I : Inv σ) (B : ByT σ) (p : Int32) : Call (fun s => RC_system s p) (fun s => Mo_system s p) σ := by
  obtain ⟨N, n1, n2, n3, n4⟩ := I.2.2.2.1
  have hi : ((σ.1 2 1).toInt64).toInt = (N : Nat) := by rw [n2, Int32.toInt_toInt64, nI_toInt (by omega)]
  rcases within_ex p (lo := 0) (hi := (σ.1 2 1).toInt64) 0 N (by decide) hi (by omega) with h | ⟨n, h1, h2, rfl, h⟩
  · refine call_s (r := -1) (v := 1) I ?_ (fun σ1 F => ?_)
    · show RC_system σ p = _
      unfold RC_system
      rw [h, bd_s, if_pos rfl, RC_refuse_n, bd2_s]
    · show Mo_system σ1 p = _
      have hno : p.toInt < 0 ∨ (N : Int) < p.toInt ∨ ((900 : Nat) : Int) < p.toInt := by
        rcases within_no h with q | q
        · exact Or.inl q
        · rw [hi] at q; exact Or.inr (Or.inl q)
      unfold Mo_system
      rw [show (900 : Int32) = nI 900 from rfl, begins_no (N := N) (by rw [F.i (by unfold Ac0; omega)]; exact n3) n1 (by omega) hno, bd2_s, if_pos rfl, Mo_refuse_n, bd2_s]
  · have hc : ∀ k, k < n → vp_nar .byte (σ.1 3 k) = σ.1 3 k ∧ ub (σ.1 3 k) = (fun k => ub (σ.1 3 k)) k := fun k _ => ⟨B k, rfl⟩
    obtain ⟨r, σ1, τ', e1, _⟩ := sys_run (τ0 := σ) (bt := fun k => ub (σ.1 3 k)) n2 n3 n1 h2 hc (fun k hk => by rw [← n4 k (by omega)]; exact hc k hk)
    have Fc := (fp_RC_system (A := fun a i => Ard a i ∧ a < 92) (Fp.rf (σ := σ)) (by intros; unfold Ard; omega) (by intros; unfold Ard; omega) (by intros; unfold Ard; omega) (by intros; unfold Ard; omega) (by intros; unfold Ard; omega) (by intros; unfold Ard; omega) (by intros; unfold Ard; omega) (by intros; unfold Ard; omega) (by intros; unfold Ard; omega) (by intros; unfold Ard; omega) (by intros; unfold Ard; omega) (by intros; unfold Ard; omega) (by intros; unfold Ard; omega) (by intros; unfold Ard; omega) (by intros; unfold Ard; omega) (by intros; unfold Ard; omega) (by intros; unfold Ard; omega) (by intros; unfold Ard; omega) (by intros; unfold Ard; omega) (by intros; unfold Ard; omega) (by intros; unfold Ard; omega) (by intros; unfold Ard; omega) (by intros; unfold Ard; omega) (by intros; unfold Ard; omega) (by intros; unfold Ard; omega) (by intros; unfold Ard; omega) _ e1).2
    obtain ⟨r2, σ2, τ1, f1, f2, ⟨s1, s2, s3, s4, s5, G⟩, Q⟩ := sys_run (τ0 := σ1) (bt := fun k => ub (σ.1 3 k)) n2 ((Fc.i (by omega)).trans n3) n1 h2 hc (fun k hk => by rw [Fc.i (by omega), ← n4 k (by omega)]; exact hc k hk)
    have hE : (r, σ1) = (r2, σ2) := Option.some.inj (e1.symm.trans f1)
    have hr : r = r2 := congrArg Prod.fst hE
    have hs : σ1 = σ2 := congrArg Prod.snd hE
    subst hr
    subst hs
    have G' : Fp Bm σ1 τ1 := G
    have cl : ∀ a i, a < 92 → τ1.1 a i = σ1.1 a i := fun a i ha => G'.i (by unfold Bm AM A93 A94; omega)
    refine ⟨r, σ1, τ1, e1, f2, inv_rd I ((Fc.mono (fun a i q => q.1)).tr (G'.mono (fun a i q => by unfold Bm AM A93 A94 at q; unfold Ard; omega))) ?_ ⟨?_, ?_⟩ ⟨0, by omega, ?_, ?_, fun k hk => absurd hk (Nat.not_lt_zero _)⟩ ?_ ?_⟩
    · rw [cl 0 0 (by omega)]; exact s1
    · rw [cl 2 9 (by omega)]; exact s2
    · rw [cl 2 10 (by omega)]; exact s3
    · rw [cl 2 1 (by omega)]; exact s4
    · exact s5
    · rcases Q with ⟨c, od, on, rs, md, nm, _, q1, q2, q3, _, _⟩ | ⟨q1, q2⟩
      · exact ⟨c, od, on, rs, md, nm, q1.keep (G'.sm (fun b i _ _ q => by unfold Bm AM A93 A94 at q; omega)), q2, q3⟩
      · have FF : Fp (fun a i => Acf a i ∨ AM a i) σ τ1 := (q1.mono (fun a i q => Or.inl q)).tr (q2.mono (fun a i q => Or.inr q))
        exact I.2.2.2.2.1.keep2 (FF.sm (fun b i _ _ q => by unfold Acf AM at q; omega)) (fun i _ => FF.i (by unfold Acf AM; omega)) (fun i _ => FF.l (by unfold Acf AM; omega))
    · rcases Q with ⟨c, od, on, rs, md, nm, _, _, _, _, q5, q6⟩ | ⟨q1, q2⟩
      · exact Or.inl ⟨(cl 15 8 (by omega)).trans q5, q6⟩
      · have FF : Fp (fun a i => Acf a i ∨ AM a i) σ τ1 := (q1.mono (fun a i q => Or.inl q)).tr (q2.mono (fun a i q => Or.inr q))
        exact I.2.2.2.2.2.1.keep2 (FF.sm (fun b i _ _ q => by unfold Acf AM at q; omega)) (fun i _ => FF.i (by unfold Acf AM; omega))
end CSY
