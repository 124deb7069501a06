theorem MV.keep2 {σ σ2 : St} {o q c od on : Nat} {rs md nm : Nat → Nat} (h : MV σ o q c od on rs md nm) (hc : c ≤ 12) (s : ∀ i, i < 2 ∨ (4 ≤ i ∧ i < 40) → σ2.1 93 (o + i) = σ.1 93 (o + i)) (t : ∀ i, i < 12 → σ2.2 94 (q + i) = σ.2 94 (q + i)) : MV σ2 o q c od on rs md nm := by
  obtain ⟨h1, h2, h3, h4, h5, h6⟩ := h
  refine ⟨?_, ?_, fun k hk => ?_, fun k hk => ?_, fun k hk => ?_, fun k hk => ?_⟩
  · have := s 0 (by omega); rw [Nat.add_zero] at this; rw [this]; exact h1
  · rw [s 1 (by omega)]; exact h2
  · rw [s _ (by omega)]; exact h3 k hk
  · rw [s _ (by omega)]; exact h4 k hk
  · rw [s _ (by omega)]; exact h5 k hk
  · rw [t _ (by omega)]; exact h6 k hk
theorem RSy.keep2 {σ σ2 : St} {a o q : Nat} (h : RSy σ a o q) (s : Sm a (a + 3) σ σ2) (t : ∀ i, i < 2 ∨ (4 ≤ i ∧ i < 40) → σ2.1 93 (o + i) = σ.1 93 (o + i)) (u : ∀ i, i < 12 → σ2.2 94 (q + i) = σ.2 94 (q + i)) : RSy σ2 a o q := by
  obtain ⟨c, od, on, rs, md, nm, h1, h2, h3⟩ := h
  exact ⟨c, od, on, rs, md, nm, h1.keep s, h2.keep2 h3.1 t u, h3⟩
theorem RDy.keep2 {σ σ2 : St} {a o : Nat} (h : RDy σ a o) (s : Sm a (a + 6) σ σ2) (t : ∀ i, i = 2 ∨ (40 ≤ i ∧ i < 404) → σ2.1 93 (o + i) = σ.1 93 (o + i)) : RDy σ2 a o := by
  rcases h with h | ⟨n, kd, te, sg, wh, nu, pa, h1, h2, h3⟩
  · left
    rw [s.i (by omega) (by omega), t 2 (by omega)]
    exact h
  · refine Or.inr ⟨n, kd, te, sg, wh, nu, pa, h1.keep s, ⟨?_, fun k hk => ?_⟩, h3⟩
    · rw [t 2 (by omega)]; exact h2.1
    · have hn := h3.1
      rw [t (40 + 6 * k) (by omega), t (45 + 6 * k) (by omega), t (41 + 6 * k) (by omega), t (42 + 6 * k) (by omega), t (44 + 6 * k) (by omega)]; exact h2.2 k hk
/-- cells that a call may change that changes the system -/
def As (a i : Nat) : Prop := (a = 0 ∧ i < 3) ∨ (7 ≤ a ∧ a ≤ 14) ∨ (22 ≤ a ∧ a ≤ 46) ∨ a = 49 ∨ a = 50 ∨ (a = 92 ∧ (i = 2 ∨ i = 3 ∨ i = 4 ∨ (20 ≤ i ∧ i ≤ 36))) ∨ (100 ≤ a ∧ a ≤ 109) ∨ (a = 93 ∧ (i < 2 ∨ (4 ≤ i ∧ i < 40) ∨ 1616 ≤ i)) ∨ (a = 94 ∧ (i < 12 ∨ 48 ≤ i))
theorem inv_sys {σ σ2 : St} (I : Inv σ) (F : Fp As σ σ2) (h1 : σ2.1 0 0 = σ2.1 92 2) (h2 : σ2.2 0 1 = σ2.2 92 3) (h3 : σ2.2 0 2 = σ2.2 92 4) (sy : RSy σ2 7 0 0) : Inv σ2 := by
  obtain ⟨_, ⟨f1, f2⟩, tr, ⟨n, n1, n2, n3, n4⟩, _, dy, ⟨l1, l2⟩, ⟨m, m1, m2, m3, m4⟩⟩ := I
  have e : ∀ {b i : Nat}, ¬ As b i → σ2.1 b i = σ.1 b i := fun q => F.i q
  refine ⟨⟨h1, h2, h3⟩, ⟨?_, ?_⟩, ?_, ⟨n, n1, ?_, ?_, ?_⟩, sy, ?_, ⟨?_, ?_⟩, ⟨m, m1, ?_, ?_, ?_⟩⟩
  · rw [e (by unfold As; omega), e (by unfold As; omega)]; exact f1
  · rw [e (by unfold As; omega), e (by unfold As; omega)]; exact f2
  · exact tr.keep (F.sm (fun b i q1 q2 q => by unfold As at q; omega)) (F.sm (fun b i q1 q2 q => by unfold As at q; omega))
  · rw [e (by unfold As; omega)]; exact n2
  · rw [e (by unfold As; omega)]; exact n3
  · intro k hk
    rw [e (by unfold As; omega), e (by unfold As; omega)]; exact n4 k hk
  · exact dy.keep2 (F.sm (fun b i q1 q2 q => by unfold As at q; omega)) (fun i hi => e (by unfold As; omega))
  · rw [e (b := 47) (by unfold As; omega), e (b := 92) (by unfold As; omega)]; exact l1
  · rw [e (b := 92) (i := 37) (by unfold As; omega), e (b := 47) (i := 3) (by unfold As; omega), e (b := 47) (i := 4) (by unfold As; omega), e (b := 47) (i := 5) (by unfold As; omega), e (b := 47) (i := 6) (by unfold As; omega), e (b := 47) (i := 7) (by unfold As; omega), e (b := 110) (i := 0) (by unfold As; omega), e (b := 110) (i := 1) (by unfold As; omega), e (b := 110) (i := 2) (by unfold As; omega), e (b := 110) (i := 3) (by unfold As; omega), e (b := 110) (i := 4) (by unfold As; omega)]
    exact l2
  · rw [e (by unfold As; omega)]; exact m2
  · rw [e (by unfold As; omega)]; exact m3
  · intro j hj
    obtain ⟨q1, q2⟩ := m4 j hj
    refine ⟨q1.keep2 (F.sm (fun b i q1 q2 q => by unfold As at q; omega)) (fun i hi => e (by unfold As; omega)) (fun i hi => F.l (by unfold As; omega)), q2.keep2 (F.sm (fun b i q1 q2 q => by unfold As at q; omega)) (fun i hi => e (by unfold As; omega))⟩
def Acs (a i : Nat) : Prop := (a = 0 ∧ i = 0) ∨ (7 ≤ a ∧ a ≤ 14) ∨ (22 ≤ a ∧ a ≤ 46) ∨ a = 49 ∨ a = 50
def Ams (a i : Nat) : Prop := (a = 92 ∧ (i = 2 ∨ (20 ≤ i ∧ i ≤ 36))) ∨ (100 ≤ a ∧ a ≤ 109) ∨ (a = 93 ∧ (i < 2 ∨ (4 ≤ i ∧ i < 40) ∨ 1616 ≤ i)) ∨ (a = 94 ∧ (i < 12 ∨ 48 ≤ i))
theorem Acs.q (a i : Nat) (h : Acs a i) : As a i := by unfold Acs at h; unfold As; omega
theorem Ams.q (a i : Nat) (h : Ams a i) : As a i := by unfold Ams at h; unfold As; omega
theorem call_m {α : Type} {f g : St → Option (α × St)} {σ σ1 σ2 : St} {r : α} {v : Int32} {c od on : Nat} {rs md nm : Nat → Nat} (I : Inv σ) (hf : f σ = some (r, σ1)) (F1 : Fp Acs σ σ1) (hv : σ1.1 0 0 = v) (hc : CV σ1 7 c od on rs md nm) (hg : g σ1 = some (r, σ2)) (F2 : Fp Ams σ1 σ2) (hw : σ2.1 92 2 = v) (hm : MV σ2 0 0 c od on rs md nm) (w : WF c od on rs md nm) : Call f g σ := by
  refine ⟨r, σ1, σ2, hf, hg, inv_sys I ((F1.mono Acs.q).tr (F2.mono Ams.q)) ?_ ?_ ?_ ⟨c, od, on, rs, md, nm, hc.keep (F2.sm (fun b i q1 q2 q => by unfold Ams at q; omega)), hm, w⟩⟩
  · rw [F2.i (by unfold Ams; omega), hv, hw]
  · rw [F2.l (by unfold Ams; omega), F1.l (by unfold Acs; omega), F2.l (by unfold Ams; omega), F1.l (by unfold Acs; omega)]; exact I.1.2.1
  · rw [F2.l (by unfold Ams; omega), F1.l (by unfold Acs; omega), F2.l (by unfold Ams; omega), F1.l (by unfold Acs; omega)]; exact I.1.2.2
theorem MV.ws {σ σ1 : St} {o q c od on : Nat} {rs md nm : Nat → Nat} (h : MV σ o q c od on rs md nm) (F : Fp Acs σ σ1) : MV σ1 o q c od on rs md nm := h.keep (F.sm (fun b i q1 q2 q => by unfold Acs at q; omega))
theorem CV.st {σ : St} {c od on : Nat} {rs md nm : Nat → Nat} {a : Nat} (h : CV σ a c od on rs md nm) (ha : 0 < a) (v : Int32) : CV (wI σ 0 0 v) a c od on rs md nm := h.keep (fun b i q1 q2 => (Fp.wI (A := fun a i => a = 0 ∧ i = 0) Fp.rf ⟨rfl, rfl⟩) b i (fun q => by omega))
theorem MV.st {σ : St} {o q c od on : Nat} {rs md nm : Nat → Nat} (h : MV σ o q c od on rs md nm) (v : Int32) : MV (wI σ 92 2 v) o q c od on rs md nm := h.keep (fun b i q1 q2 => (Fp.wI (A := fun a i => a = 92 ∧ i = 2) Fp.rf ⟨rfl, rfl⟩) b i (fun q => by omega))
theorem ckl0 : ckz 0 = true := by decide
theorem ckl1 : ckz 1 = true := by decide
/-! rule -/
theorem call_rule {σ : St} (I : Inv σ) (p : Int32) : Call (fun σ => RC_rule σ p) (fun σ => Mo_rule σ p) σ := by
  obtain ⟨c, od, on, rs, md, nm, hc, hm, w⟩ := I.2.2.2.2.1
  rcases within_ex p (lo := 0) (hi := 16) 0 16 rfl rfl (by omega) with h | ⟨n, _, hn, rfl, h⟩
  · refine call_s (r := 0) (v := 1) I ?_ (fun σ1 F => ?_)
    · show RC_rule σ p = _
      unfold RC_rule
      rw [h, bd_s, if_pos rfl, RC_deny_n, bd2_s, ckl0, chk_true]
    · show Mo_rule σ1 p = _
      unfold Mo_rule
      rw [isFrom_w, h, bd_s, if_pos rfl, Mo_is_n _ (by decide), bd2_s, ckl0, chk_true]
  · have e1 : RC_rule σ (nI n) = some (1, wI (wI σ 7 5 (nI n)) 0 0 0) := by
      unfold RC_rule
      rw [h, bd_s, if_neg (by decide), bnd_x, RC_agree_n, bd2_s, ckl1, chk_true]
    have F1 := (fp_RC_rule (A := Acs) (p1 := nI n) (Fp.rf (σ := σ)) (by unfold Acs; omega) (by unfold Acs; omega) _ e1).2
    refine call_m (r := 1) (v := 0) (σ2 := wI (wI (wI (wI σ 7 5 (nI n)) 0 0 0) 93 1 (nI n)) 92 2 0) (od := n) I e1 F1 (wI_1 ..) (CV.st (c := c) (on := on) (rs := rs) (md := md) (nm := nm) ?_ (by omega) 0) ?_ ?_ (wI_1 ..) (MV.st ?_ 0) ⟨w.1, hn, w.2.2⟩
    · obtain ⟨a1, a2, a3, a4, a5, a6⟩ := hc
      refine ⟨?_, ?_, ?_, fun k hk => ?_, fun k hk => ?_, fun k hk => ?_⟩
      · exact a1
      · exact a2
      · exact wI_1 ..
      · exact a4 k hk
      · exact a5 k hk
      · exact a6 k hk
    · show Mo_rule _ _ = _
      unfold Mo_rule
      rw [isFrom_w, h, bd_s, if_neg (by decide), show ix 1 2060 = true from by decide, chk_true, bnd_x, Mo_is_0, bd2_s, ckl1, chk_true]
      rfl
    · exact (Fp.rf.wI (by unfold Ams; omega)).wI (by unfold Ams; omega)
    · have hm1 := hm.ws F1
      obtain ⟨a1, a2, a3, a4, a5, a6⟩ := hm1
      refine ⟨?_, ?_, fun k hk => ?_, fun k hk => ?_, fun k hk => ?_, fun k hk => ?_⟩
      · exact a1
      · exact wI_1 ..
      · exact ((Fp.wI (A := fun a i => a = 93 ∧ i = 1) Fp.rf ⟨rfl, rfl⟩).i (by omega)).trans (a3 k hk)
      · exact ((Fp.wI (A := fun a i => a = 93 ∧ i = 1) Fp.rf ⟨rfl, rfl⟩).i (by omega)).trans (a4 k hk)
      · exact ((Fp.wI (A := fun a i => a = 93 ∧ i = 1) Fp.rf ⟨rfl, rfl⟩).i (by omega)).trans (a5 k hk)
      · exact a6 k hk
