section ONB
variable {n : Nat} {bt : Nat → Nat} {τ0 σ τ σ' τ' : St} {k : Nat} {c od on : Nat} {rs md nm : Nat → Nat} {m st dp : Nat} {stk kd te sg wh nu pa : Nat → Nat} {kk te0 sg0 wh0 nu0 : Nat}
theorem sub1_n (a : Nat) : nI (a + 1) - 1 = nI a := by
  rw [show (1 : Int32) = nI 1 from rfl, sub_nI (by omega)]; rfl
theorem open_fin (h : PK τ0 σ' τ' bt n k) (hC : CV σ' 7 c od on rs md nm) (hq : DQ σ τ m st dp stk kd te sg wh nu pa) (F : Fp (Cq m) σ σ') (G : Fp (Bq m) τ τ') (hst : st < 30) (hdp : dp < 3) (c6 : σ'.1 22 6 = nI (m + 1)) (c7 : σ'.1 22 7 = nI (st + 1)) (c23 : σ'.1 23 m = nI kk) (m18 : τ'.1 93 1618 = nI (m + 1)) (m22 : τ'.1 92 22 = nI (st + 1)) (m21 : τ'.1 92 21 = nI dp) (m100 : ∀ i, τ'.1 100 i = τ.1 100 i) (hE : ER σ' τ' m (1656 + 6 * m) kk te0 sg0 wh0 nu0) (hkk : kk = 19 ∨ kk = 23) : RX τ0 (Pd τ0 bt n k kk c od on rs md nm (tp dp stk)) (bd2 (Re_take (wI σ' 27 m ((σ'.2 2 8).toInt32)) 5) (fun r21 s22 => chk (ckz r21) (some (r21, s22)))) (bd2 (Mo_wantSign (wI (wI τ' 100 dp (nI m)) 92 21 (nI (dp + 1))) 59) (fun r30 s31 => chk (ckz r30) (some (r30, s31)))) := by
  have F1 : Fp (fun a j => a = 27 ∧ j = m) σ' (wI σ' 27 m ((σ'.2 2 8).toInt32)) := Fp.wI (A := fun a j => a = 27 ∧ j = m) (Fp.rf (A := fun a j => a = 27 ∧ j = m)) ⟨rfl, rfl⟩
  have G1 : Fp (fun a j => (a = 100 ∧ j = dp) ∨ (a = 92 ∧ j = 21)) τ' (wI (wI τ' 100 dp (nI m)) 92 21 (nI (dp + 1))) := Fp.wI (A := fun a j => (a = 100 ∧ j = dp) ∨ (a = 92 ∧ j = 21)) (Fp.wI (A := fun a j => (a = 100 ∧ j = dp) ∨ (a = 92 ∧ j = 21)) (Fp.rf (A := fun a j => (a = 100 ∧ j = dp) ∨ (a = 92 ∧ j = 21))) (Or.inl ⟨rfl, rfl⟩)) (Or.inr ⟨rfl, rfl⟩)
  have h1 : PK τ0 (wI σ' 27 m ((σ'.2 2 8).toInt32)) (wI (wI τ' 100 dp (nI m)) 92 21 (nI (dp + 1))) bt n k := ⟨h.1.kp F1 (fun i => by omega) (by omega), h.2.kp G1 (fun i => by omega) (fun i _ _ => by omega) (fun a j q => by unfold AM; omega)⟩
  refine RX.ck (RX.mono (takeS h1) (fun σ3 τ3 hN => ?_))
  obtain ⟨n1, n2, n3⟩ := hN
  obtain ⟨q1, q2, q3, q4, q5, q6, q7, q8, q9, q10, q11⟩ := hq
  have e6 : σ3.1 22 6 = nI (m + 1) := (n2.i (by unfold C2; omega)).trans ((wI_ne (by omega)).trans c6)
  have F2 : Fp (fun a j => a = 28 ∧ j = m) σ3 (wI σ3 28 m (tp dp stk)) := Fp.wI (A := fun a j => a = 28 ∧ j = m) (Fp.rf (A := fun a j => a = 28 ∧ j = m)) ⟨rfl, rfl⟩
  have F4 : Fp (Cq m) σ (wI σ3 28 m (tp dp stk)) := ((F.tr (F1.mono (fun a j q => by unfold Cq; omega))).tr (n2.mono (fun a j q => Or.inl q))).tr (F2.mono (fun a j q => by unfold Cq; omega))
  have G3 : Fp (Bq m) τ τ3 := (G.tr (G1.mono (fun a j q => by unfold Bq; omega))).tr (n3.mono (fun a j q => Or.inl q))
  have hm : m < 60 := by omega
  have x4 : ∀ r j, ¬ (r = 2 ∨ (r = 27 ∧ j = m) ∨ (r = 28 ∧ j = m)) → (wI σ3 28 m (tp dp stk)).1 r j = σ'.1 r j := fun r j hr => (F2.i (by omega)).trans ((n2.i (by unfold C2; omega)).trans (F1.i (by omega)))
  refine ⟨nI m, wI σ3 28 m (tp dp stk), k + 1, m + 1, st + 1, dp + 1, fset stk dp m, fset kd m kk, fset te m te0, fset sg m sg0, fset wh m wh0, fset nu m nu0, fset pa m 100, ?_, by omega, ⟨n1.1.kp F2 (fun i => by omega) (by omega), n1.2⟩, ⟨(x4 22 6 (by omega)).trans c6, (x4 22 7 (by omega)).trans c7, ?_, ?_, ?_, by omega, by omega, by omega, fun i hi => ⟨?_, ?_⟩, ?_, ?_⟩, ?_, ?_⟩
  · unfold DT_innermostBehind
    have ho : DT_isOpener (nI kk) = some 1 := by
      unfold DT_isOpener
      rcases hkk with rfl | rfl
      · rw [if_pos (by decide)]
      · rw [if_neg (by decide), if_pos (by decide)]
    rw [e6, sub1_n, bnd_x, ho, bd_s, if_neg (by decide), ix_nI (by omega) (by omega), chk_true, tn_nI (by omega), bnd_x]
  · exact (n3.i (by unfold A4; omega)).trans ((G1.i (by omega)).trans m18)
  · exact (n3.i (by unfold A4; omega)).trans wI_s
  · exact (n3.i (by unfold A4; omega)).trans ((G1.i (by omega)).trans m22)
  · by_cases z : i = dp
    · rw [z, fset_1, wI_s]
      unfold tp
      by_cases y : dp = 0
      · rw [if_pos y, if_pos y]
      · rw [if_neg y, if_neg y, fset_2 _ _ (by omega)]
    · have hs := (q11.2.2.1 i (by omega)).1
      rw [fset_2 _ _ z, F4.i (by unfold Cq; omega), (q9 i (by omega)).1]
      by_cases y : i = 0
      · rw [if_pos y, if_pos y]
      · rw [if_neg y, if_neg y, fset_2 _ _ (by omega)]
  · by_cases z : i = dp
    · rw [z, fset_1]
      exact (n3.i (by unfold A4; omega)).trans ((wI_ne (by omega)).trans wI_s)
    · rw [fset_2 _ _ z]
      exact (n3.i (by unfold A4; omega)).trans ((G1.i (by omega)).trans ((m100 i).trans (q9 i (by omega)).2))
  · refine (q10.kp F4 G3).push (hE.cc c23 (Or.inr rfl) (fun r r1 r2 => x4 r m (by omega)) ((F2.i (by omega)).trans ((n2.i (by unfold C2; omega)).trans wI_s))) (hE.mm (Or.inr rfl) (fun r hr => (n3.i (by unfold A4; omega)).trans (G1.i (by omega)))) (hE.ww (by omega))
  · exact q11.opn (by omega) (fun j hj => fset_2 _ _ (by omega)) (fun j hj => fset_2 _ _ (by omega)) (by rw [fset_1]; exact hkk) (by rw [fset_1]) (fun i hi => fset_2 _ _ (by omega)) (fset_1 _ _ _)
  · unfold tp
    rw [if_neg (by omega), Nat.add_sub_cancel, fset_1]
  · exact hC.keep (((F1.sm (fun b i _ _ q => by omega)).tr' (n2.sm (fun b i _ _ q => by unfold C2 at q; omega))).tr' (F2.sm (fun b i _ _ q => by omega)))
end ONB
