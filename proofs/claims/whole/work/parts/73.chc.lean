section CHR
variable {m : Nat → Nat} {n mode L : Nat}
/-- the ways counted by the class, from the first -/
theorem countC {σ : St} {r : Nat → Nat} (hM : MO m n) (hmo : mode ≤ 2) (hS : CS σ m n mode (lc m n)) (hB : CB σ m r (lc m n) 0) : ∃ σ', Ch_waysFrom 60 σ 0 0 = some (nI (fb_sm (fun x => gd mode m (lc m n) n (de m n r x)) (pr m n)), σ') ∧ Fp (fun a i => a = 38 ∨ (41 ≤ a ∧ a ≤ 46)) σ σ' := by
  have hn := hM.1
  obtain ⟨l1, l2⟩ := hM.lc (d := n) (Nat.le_refl _)
  rw [← NW_de n (gd mode m (lc m n) n) hM.p]
  cases n with
  | zero =>
    obtain ⟨τ, t1, t2⟩ := waysC hM l1 l2 hmo 0 60 0 r σ rfl (by omega) (Or.inl rfl) hS hB
    refine ⟨τ, ?_, t2⟩
    rw [CW_NW 0 0 (Or.inr rfl)] at t1
    exact t1
  | succ k =>
    obtain ⟨m1, m2⟩ := hM.2.1 0 (by omega)
    obtain ⟨τ, t1, t2⟩ := waysL (k := k) (f := 59) (d := 0) (B := 1) hM l1 l2 hmo hS (by omega) hB m1 (fun r' σ1 h1 h2 => by
      obtain ⟨σ2, g1, g2⟩ := waysC hM l1 l2 hmo k 59 (0 + 1) r' σ1 (by omega) (by omega) (Or.inr (by omega)) h1 h2
      exact ⟨σ2, g1, g2.mono (fun a i z => by omega)⟩)
    have hlok : lok m (fset r 0 0) (lc m (k + 1)) 0 = true := lok_iff.mpr (fun i hi => absurd hi (Nat.not_lt_zero _))
    have hdj : djb m (fset r 0 0) (lc m (k + 1)) 1 = true := by
      show (true && lok m (fset r 0 0) (lc m (k + 1)) 0) = true
      rw [hlok]; rfl
    have e1 : fb_sm (fun v => if mode = 0 ∨ lok m (fset r 0 v) (lc m (k + 1)) 0 = true then CW mode m (lc m (k + 1)) k (0 + 1) (fset r 0 v) else 0) 1 = NW m (gd mode m (lc m (k + 1)) (k + 1)) k 1 (fset r 0 0) := by
      rw [fb_sm_succ, show fb_sm (fun v => if mode = 0 ∨ lok m (fset r 0 v) (lc m (k + 1)) 0 = true then CW mode m (lc m (k + 1)) k (0 + 1) (fset r 0 v) else 0) 0 = 0 from rfl, Nat.zero_add, if_pos (Or.inr hlok), CW_NW k (0 + 1) (Or.inr hdj), show 0 + 1 + k = k + 1 by omega]
    rw [if_pos rfl, e1, Nat.mul_comm, ← NW_all hM.p (fun i hi => lc_dvd hi) r] at t1
    refine ⟨τ, ?_, t2⟩
    show Ch_waysFrom_F (Ch_waysFrom 59) σ 0 0 = _
    unfold Ch_waysFrom_F
    rw [hS.1, if_pos (show (0 : Int32) < nI (k + 1) by rw [show (0 : Int32) = nI 0 from rfl, lt_nI (by omega) (by omega)]; omega), if_pos rfl]
    exact t1
end CHR
