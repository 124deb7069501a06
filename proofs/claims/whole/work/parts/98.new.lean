section NEW
variable {n : Nat} {bt : Nat → Nat} {τ0 σ τ σ' τ' : St} {k : Nat} {c od on : Nat} {rs md nm : Nat → Nat} {m st dp kk : Nat} {stk kd te sg wh nu pa : Nat → Nat}
theorem new_J (h : PK τ0 σ τ bt n k) (hC : CV σ 7 c od on rs md nm) (hM : MV τ0 0 0 c od on rs md nm) (w : WF c od on rs md nm) (hq : DQ σ τ m st dp stk kd te sg wh nu pa) (hk : kC bt n (ts bt n k) = kk) (hkk : kk = 14 ∨ kk = 15 ∨ kk = 16 ∨ kk = 17 ∨ kk = 18 ∨ kk = 19 ∨ kk = 23 ∨ kk = 25) (hst : st < 30) (hdp : kk = 19 ∨ kk = 23 → dp < 3) {l4 : Int32} (hl : l4 = if kk = 19 ∨ kk = 23 then 1 else 0) : RX τ0 (Pd τ0 bt n k kk c od on rs md nm (tp dp stk)) (DT_takeOne_J89 σ 7 22 (nI kk)) (Mo_dayStep_J128 τ (nI (kk - 10)) (nI m) (nI (1656 + 6 * m)) l4 1 (τ.1 92 22)) := by
  have hq' := hq
  obtain ⟨q1, q2, q3, q4, q5, q6, q7, q8, q9, q10, q11⟩ := hq'
  have hm : m < 60 := by omega
  have hc12 := w.1
  obtain ⟨σb, hσb⟩ : ∃ σb, σb = wI (wI (wI σ 23 m (nI kk)) 22 6 (nI (m + 1))) 22 7 (nI (st + 1)) := ⟨_, rfl⟩
  have F1 : Fp (fun a j => (a = 23 ∧ j = m) ∨ a = 22) σ σb := by
    rw [hσb]
    exact Fp.wI (A := fun a j => (a = 23 ∧ j = m) ∨ a = 22) (Fp.wI (A := fun a j => (a = 23 ∧ j = m) ∨ a = 22) (Fp.wI (A := fun a j => (a = 23 ∧ j = m) ∨ a = 22) (Fp.rf (A := fun a j => (a = 23 ∧ j = m) ∨ a = 22)) (Or.inl ⟨rfl, rfl⟩)) (Or.inr rfl)) (Or.inr rfl)
  have y6 : σb.1 22 6 = nI (m + 1) := by rw [hσb, wI_ne (by omega), wI_s]
  have y7 : σb.1 22 7 = nI (st + 1) := by rw [hσb, wI_s]
  have y23 : σb.1 23 m = nI kk := by rw [hσb, wI_ne (by omega), wI_ne (by omega), wI_s]
  have hc1 : PC σb bt n k := h.1.kp F1 (fun i => by omega) (by omega)
  obtain ⟨σc, b1, b2, b3⟩ := step_c hc1 (hc1.go (by omega))
  obtain ⟨τ2, a1, a2, a3, a4, a5, a6, a7, a8⟩ := head_m h.2 q3 hm (q := kk - 10) (v := st + 1) (s0 := 1) (s1 := τ.1 92 22) (l4 := l4) (by rw [q5, nI_1])
  have cpre : DT_takeOne_J89 σ 7 22 (nI kk) = bd2 (DT_takeRest σc 7 22 (nI m)) (fun r14 s15 => if r14 = 0 then (some (0, s15)) else (bd (Re_takenNumber s15) (fun r17 => chk (ix (nI m) 60) (bnd (wI s15 (22 + 5) (tn (nI m)) r17) (fun s19 => bd2 (Re_take s19 5) (fun r21 s22 => chk (ckz r21) (some (r21, s22)))))))) := by
    have e7 : (wI (wI σ 23 m (nI kk)) 22 6 (nI (m + 1))).1 22 7 = nI st := (wI_ne (by omega)).trans ((wI_ne (by omega)).trans q2)
    unfold DT_takeOne_J89
    rw [append_n q1 hm, bd2_s, e7, nI_1, bnd_x, ← hσb, b1, bd_s]
  rw [cpre, a1]
  have hcs : ∀ r j, ¬ r = 2 → σc.1 r j = σb.1 r j := fun r j hr => b3.i hr
  have hC1 : CV σc 7 c od on rs md nm := hC.keep ((F1.sm (fun b i _ _ q => by omega)).tr' (b3.sm (fun b i _ _ q => by unfold C2 at q; omega)))
  refine RX.sq (rest_x (P := 1656 + 6 * m) ⟨b2, a2⟩ hC1 hM w hm (by omega) (by omega) hkk ((hcs 23 m (by omega)).trans y23) a4) (fun σ' τ' hR => ?_)
  obtain ⟨k', k1, k2, k3, k4, te0, sg0, wh0, nu0, hE⟩ := hR
  have hT : Re_takenNumber σ' = some ((σ'.2 2 8).toInt32) := rfl
  have FF : Fp (Cq m) σ σ' := ((F1.mono (B := Cq m) (fun a j q => by unfold Cq; omega)).tr (b3.mono (B := Cq m) (fun a j q => Or.inl q))).tr (k3.mono (B := Cq m) (fun a j q => by unfold Cr at q; unfold Cq; omega))
  have GG' : Fp (Bq m) τ τ' := a3.tr (k4.mono (fun a j q => q.elim (fun y => Or.inl y) (fun y => Or.inr (Or.inl (by omega)))))
  have hC2 : CV σ' 7 c od on rs md nm := hC1.keep (k3.sm (fun b i _ _ q => by unfold Cr at q; omega))
  have z6 : σ'.1 22 6 = nI (m + 1) := (k3.i (by unfold Cr; omega)).trans ((hcs 22 6 (by omega)).trans y6)
  have z7 : σ'.1 22 7 = nI (st + 1) := (k3.i (by unfold Cr; omega)).trans ((hcs 22 7 (by omega)).trans y7)
  have z23 : σ'.1 23 m = nI kk := (k3.i (by unfold Cr; omega)).trans ((hcs 23 m (by omega)).trans y23)
  have w18 : τ'.1 93 1618 = nI (m + 1) := (k4.i (by unfold Br A4; omega)).trans a5
  have w22 : τ'.1 92 22 = nI (st + 1) := (k4.i (by unfold Br A4; omega)).trans a6
  have w21 : τ'.1 92 21 = nI dp := (k4.i (by unfold Br A4; omega)).trans (a7.trans q4)
  have w100 : ∀ i, τ'.1 100 i = τ.1 100 i := fun i => (k4.i (by unfold Br A4; omega)).trans (a8 i)
  have hJ : ∀ υ : St, Mo_dayStep_J217 υ (nI (kk - 10)) (nI m) (nI (1656 + 6 * m)) = bd2 (Mo_wantSign υ 59) (fun r30 s31 => chk (ckz r30) (some (r30, s31))) := fun υ => by
    unfold Mo_dayStep_J217
    rw [if_neg (show ¬ nI (kk - 10) = 14 by rw [show (14 : Int32) = nI 14 from rfl, eq_nI (by omega) (by omega)]; omega)]
  rw [hT, bd_s, ix_nI (by omega) (by omega), chk_true, tn_nI (by omega), bnd_x]
  have up : ∀ {x y : Option (Int32 × St)}, RX τ0 (Pd τ0 bt n k' kk c od on rs md nm (tp dp stk)) x y → RX τ0 (Pd τ0 bt n k kk c od on rs md nm (tp dp stk)) x y := fun hx => RX.mono hx (fun σ3 τ3 hP => by
    obtain ⟨x', σ4, k'', m', st', dp', stk', kd', te', sg', wh', nu', pa', p1, p2, p3⟩ := hP
    exact ⟨x', σ4, k'', m', st', dp', stk', kd', te', sg', wh', nu', pa', p1, by omega, p3⟩)
  by_cases ho : kk = 19 ∨ kk = 23
  · rw [if_pos ho] at hl
    have e21 : (wI τ' 100 dp (nI m)).1 92 21 = nI dp := (wI_ne (by omega)).trans w21
    have hd := hdp ho
    rw [if_neg (by rw [hl]; decide), w21, ix_nI (by omega) (by omega), chk_true, tn_nI (by omega), bnd_x, e21, nI_1, bnd_x, hJ]
    exact up (open_fin k2 hC2 hq FF GG' hst hd z6 z7 z23 w18 w22 w21 w100 hE ho)
  · rw [if_neg ho] at hl
    rw [if_pos hl, hJ]
    exact up (plain_fin k2 hC2 hq FF GG' hst z6 z7 z23 w18 w22 w21 w100 hE (by omega))
end NEW
