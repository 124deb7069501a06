section TST
variable {n : Nat} {bt : Nat → Nat} {τ0 σ τ : St} {k : Nat} {c od on : Nat} {rs md nm : Nat → Nat}
def TR (τ0 : St) (bt : Nat → Nat) (n k m P : Nat) (σ τ σ' τ' : St) : Prop := ∃ k', k < k' ∧ PK τ0 σ' τ' bt n k' ∧ Fp (Cr m) σ σ' ∧ Fp (Br P) τ τ' ∧ ∃ te sg wh nu, (te = 15 ∨ te = 20 ∨ te = 21 ∨ te = 22) ∧ σ'.1 24 m = nI te ∧ τ'.1 93 P = nI (890 + te) ∧ (te = 22 → (sg = 6 ∨ sg = 7 ∨ sg = 8) ∧ σ'.1 25 m = nI sg ∧ τ'.1 93 (P + 5) = nI (sgM sg)) ∧ (te = 15 → wh < 12 ∧ σ'.1 26 m = nI wh ∧ τ'.1 93 (P + 1) = nI wh) ∧ (te = 21 ∨ te = 22 → nu ≤ 9999 ∧ σ'.2 2 8 = lN nu ∧ τ'.1 93 (P + 2) = nI nu)
theorem testJ_x (h : PK τ0 σ τ bt n k) (hC : CV σ 7 c od on rs md nm) (hM : MV τ0 0 0 c od on rs md nm) (w : WF c od on rs md nm) {m P te : Nat} (hm : m < 60) (hP : 1616 ≤ P) (hP2 : P + 6 ≤ 2060) (hte : te = 15 ∨ te = 20 ∨ te = 21 ∨ te = 22) (hk : kC bt n (ts bt n k) = te) : RX τ0 (TR τ0 bt n k m P σ τ) (DT_takeTest_J40 σ 7 22 (nI m) (nI te)) (Mo_test_J36 τ (nI P) (nI (te - 10))) := by
  have F1 : Fp (fun a j => a = 24 ∧ j = m) σ (wI σ 24 m (nI te)) := Fp.wI (A := fun a j => a = 24 ∧ j = m) (Fp.rf (A := fun a j => a = 24 ∧ j = m)) ⟨rfl, rfl⟩
  have F2 : Fp (fun a j => a = 93 ∧ j = P) τ (wI τ 93 P (nI (890 + te))) := Fp.wI (A := fun a j => a = 93 ∧ j = P) (Fp.rf (A := fun a j => a = 93 ∧ j = P)) ⟨rfl, rfl⟩
  have h1 : PK τ0 (wI σ 24 m (nI te)) (wI τ 93 P (nI (890 + te))) bt n k := ⟨h.1.kp F1 (fun i => by omega) (by omega), h.2.kp F2 (fun i => by omega) (fun i _ _ => by omega) (fun a j q => by unfold AM; omega)⟩
  obtain ⟨σ1, τ1, a1, a2, a3, a4, a5⟩ := step_n h1 (by omega)
  have G1 : Fp (Cr m) σ σ1 := (F1.mono (fun a j q => Or.inr (by omega))).tr (a4.mono (fun a j q => Or.inl q))
  have G2 : Fp (Br P) τ τ1 := (F2.mono (fun a j q => Or.inr (by omega))).tr (a5.mono (fun a j q => Or.inl q))
  have y1 : σ1.1 24 m = nI te := (a4.i (by unfold C2; omega)).trans wI_s
  have y2 : τ1.1 93 P = nI (890 + te) := (a5.i (by unfold A4; omega)).trans wI_s
  have hC1 : CV σ1 7 c od on rs md nm := hC.keep (G1.sm (fun b i _ _ q => by unfold Cr at q; omega))
  have cpre : DT_takeTest_J40 σ 7 22 (nI m) (nI te) = if nI te = 15 then (bd2 (DT_takeWho σ1 7 22 (nI m)) (fun r8 s9 => chk (ckz r8) (some (r8, s9)))) else if nI te = 21 then (bd2 (Re_takeNumber σ1 0 9999) (fun r13 s14 => chk (ckz r13) (some (r13, s14)))) else if nI te = 22 then (bd2 (DT_takeSign σ1 22 (nI m)) (fun r18 s19 => if r18 = 0 then (some (0, s19)) else (bd2 (Re_takeNumber s19 0 5040) (fun r21 s22 => if r21 = 0 then (some (0, s22)) else (some (1, s22)))))) else (some (1, σ1)) := by
    unfold DT_takeTest_J40
    rw [ix_nI (by omega) (by omega), chk_true, tn_nI (by omega), bnd_x, a1, bd_s]
  have mpre : Mo_test_J36 τ (nI P) (nI (te - 10)) = if nI (te - 10) = 10 then (some (1, τ1)) else (if nI (te - 10) = 5 then (bd2 (Mo_classTo τ1 (nI P + 1)) (fun r34 s35 => chk (ckz r34) (some (r34, s35)))) else (if nI (te - 10) = 11 then (bd2 (Mo_number τ1 (nI P + 2) 0 9999) (fun r29 s30 => chk (ckz r29) (some (r29, s30)))) else (bd (Mo_isSign τ1 60) (fun r8 => if r8 = 0 then (bd (Mo_isSign τ1 62) (fun r18 => if r18 = 0 then (bd (Mo_isSign τ1 61) (fun r20 => if r20 = 0 then (bd2 (Mo_fails τ1 2) (fun r22 s23 => chk (ckz r22) (some (r22, s23)))) else (Mo_test_J123 τ1 (nI P)))) else (Mo_test_J123 τ1 (nI P)))) else (Mo_test_J123 τ1 (nI P)))))) := by
    unfold Mo_test_J36
    rw [ix_nI (by omega) (by omega), chk_true, show (900 : Int32) = nI 900 from rfl, nI_add, tn_nI (by omega), show 900 + (te - 10) = 890 + te by omega, bnd_x, a2, bd_s]
  rw [cpre, mpre]
  rcases hte with rfl | rfl | rfl | rfl
  · rw [if_pos (by decide), if_neg (by decide), if_pos (by decide), nI_1]
    refine RX.ck (RX.mono (who_x a3 hC1 hM w hm hP (p := P + 1) (by omega) (by omega) hP2) (fun σ' τ' q => ?_))
    obtain ⟨q1, q2, q3, x, x1, x2, x3, x4, x5⟩ := q
    have hc := w.1
    rw [if_neg (by omega)] at x5
    exact ⟨_, by omega, q1, G1.tr q2, G2.tr q3, 15, 6, x, 0, by omega, x4.trans y1, x5.trans y2, fun e => by omega, fun _ => ⟨by omega, x2, x3⟩, fun e => by omega⟩
  · rw [if_neg (by decide), if_neg (by decide), if_neg (by decide), if_pos (by decide)]
    exact RX.one ⟨_, by omega, a3, G1, G2, 20, 6, 0, 0, by omega, y1, y2, fun e => by omega, fun e => by omega, fun e => by omega⟩
  · rw [if_neg (by decide), if_pos (by decide), if_neg (by decide), if_neg (by decide), if_pos (by decide), show (2 : Int32) = nI 2 from rfl, nI_add]
    refine RX.ck (RX.mono (takeN a3 (p := P + 2) (lo := 0) (hi := 9999) (by omega) (by omega) (by omega) (by omega)) (fun σ' τ' q => ?_))
    obtain ⟨q1, q2, q3, v, v1, v2, v3, v4⟩ := q
    exact ⟨_, by omega, q1, G1.tr (q2.mono (fun a j q => Or.inl q)), G2.tr (q3.mono (fun a j q => q.elim (fun y => Or.inl y) (fun y => Or.inr (by omega)))), 21, 6, 0, v, by omega, (q2.i (by unfold C2; omega)).trans y1, (q3.i (by unfold A5 A4; omega)).trans y2, fun e => by omega, fun e => by omega, fun _ => ⟨v2, v3, v4⟩⟩
  · rw [if_neg (by decide), if_neg (by decide), if_pos (by decide), if_neg (by decide), if_neg (by decide), if_neg (by decide)]
    refine RX.mono (sgn_x a3 hm hP hP2) (fun σ' τ' q => ?_)
    obtain ⟨q1, q2, q3, sg, v, s1, s2, s3, s4, s5, s6, s7, s8⟩ := q
    exact ⟨_, by omega, q1, G1.tr q2, G2.tr q3, 22, sg, 0, v, by omega, s7.trans y1, s8.trans y2, fun _ => ⟨s1, s3, s4⟩, fun e => by omega, fun _ => ⟨by omega, s5, s6⟩⟩
theorem test_x (h : PK τ0 σ τ bt n k) (hC : CV σ 7 c od on rs md nm) (hM : MV τ0 0 0 c od on rs md nm) (w : WF c od on rs md nm) {m P : Nat} (hm : m < 60) (hP : 1616 ≤ P) (hP2 : P + 6 ≤ 2060) : RX τ0 (TR τ0 bt n k m P σ τ) (DT_takeTest σ 7 22 (nI m)) (Mo_test τ (nI P)) := by
  have hkl := (kC_lt bt n (ts bt n k)).1
  by_cases hte : kC bt n (ts bt n k) = 15 ∨ kC bt n (ts bt n k) = 20 ∨ kC bt n (ts bt n k) = 21 ∨ kC bt n (ts bt n k) = 22
  · obtain ⟨te, ht⟩ : ∃ te, te = kC bt n (ts bt n k) := ⟨_, rfl⟩
    rw [← ht] at hte
    have hJ := testJ_x h hC hM w hm hP hP2 hte ht.symm
    have cpre : DT_takeTest σ 7 22 (nI m) = DT_takeTest_J40 σ 7 22 (nI m) (nI te) := by
      unfold DT_takeTest
      rw [token_n h.1, bd_s, ← ht]
      rcases hte with rfl | rfl | rfl | rfl
      · rw [if_neg (by decide), if_neg (by decide), if_pos (by decide)]
      · rw [if_pos (by decide)]
      · rw [if_neg (by decide), if_pos (by decide)]
      · rw [if_neg (by decide), if_neg (by decide), if_neg (by decide), if_pos (by decide)]
    have mpre : Mo_test τ (nI P) = Mo_test_J36 τ (nI P) (nI (te - 10)) := by
      unfold Mo_test
      rw [inW h.2.1, bd_s, ← ht, if_pos (show 10 ≤ te by omega)]
      rcases hte with rfl | rfl | rfl | rfl
      · rw [if_pos (by decide)]
      · rw [if_neg (by decide), if_pos (by decide)]
      · rw [if_neg (by decide), if_neg (by decide), if_pos (by decide)]
      · rw [if_neg (by decide), if_neg (by decide), if_neg (by decide), if_pos (by decide)]
    rw [cpre, mpre]
    exact hJ
  · have eq : ∀ p : Nat, p < 26 → ((nI (kC bt n (ts bt n k)) = nI p) ↔ kC bt n (ts bt n k) = p) := fun p hp => by rw [eq_nI (by omega) (by omega)]
    have d : ∀ p : Nat, p < 16 → ¬ kC bt n (ts bt n k) = 10 + p → ¬ (if 10 ≤ kC bt n (ts bt n k) then nI (kC bt n (ts bt n k) - 10) else -1) = nI p := fun p hp hq => by
      by_cases e : 10 ≤ kC bt n (ts bt n k)
      · rw [if_pos e, eq_nI (by omega) (by omega)]; omega
      · rw [if_neg e]; exact fun q => nI_m1 (k := p) (by omega) q.symm
    have c20 : ¬ nI (kC bt n (ts bt n k)) = (20 : Int32) := fun q => hte (Or.inr (Or.inl ((eq 20 (by omega)).mp q)))
    have c21 : ¬ nI (kC bt n (ts bt n k)) = (21 : Int32) := fun q => hte (Or.inr (Or.inr (Or.inl ((eq 21 (by omega)).mp q))))
    have c15 : ¬ nI (kC bt n (ts bt n k)) = (15 : Int32) := fun q => hte (Or.inl ((eq 15 (by omega)).mp q))
    have c22 : ¬ nI (kC bt n (ts bt n k)) = (22 : Int32) := fun q => hte (Or.inr (Or.inr (Or.inr ((eq 22 (by omega)).mp q))))
    have d5 : ¬ (if 10 ≤ kC bt n (ts bt n k) then nI (kC bt n (ts bt n k) - 10) else -1) = (5 : Int32) := d 5 (by omega) (fun q => hte (Or.inl q))
    have d10 : ¬ (if 10 ≤ kC bt n (ts bt n k) then nI (kC bt n (ts bt n k) - 10) else -1) = (10 : Int32) := d 10 (by omega) (fun q => hte (Or.inr (Or.inl q)))
    have d11 : ¬ (if 10 ≤ kC bt n (ts bt n k) then nI (kC bt n (ts bt n k) - 10) else -1) = (11 : Int32) := d 11 (by omega) (fun q => hte (Or.inr (Or.inr (Or.inl q))))
    have d12 : ¬ (if 10 ≤ kC bt n (ts bt n k) then nI (kC bt n (ts bt n k) - 10) else -1) = (12 : Int32) := d 12 (by omega) (fun q => hte (Or.inr (Or.inr (Or.inr q))))
    have cpre : DT_takeTest σ 7 22 (nI m) = bd2 (Re_blame σ 2) (fun r s => chk (ckz r) (some (r, s))) := by
      unfold DT_takeTest
      rw [token_n h.1, bd_s, if_neg c20, if_neg c21, if_neg c15, if_neg c22]
    have mpre : Mo_test τ (nI P) = bd2 (Mo_fails τ 2) (fun r s => chk (ckz r) (some (r, s))) := by
      unfold Mo_test
      rw [inW h.2.1, bd_s, if_neg d5, if_neg d10, if_neg d11, if_neg d12]
    rw [cpre, mpre]
    exact blame_x h (p := 2) (by omega) (by omega)
end TST
