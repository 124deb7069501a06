theorem Sm.tr' {lo hi : Nat} {σ σ1 σ2 : St} (h : Sm lo hi σ σ1) (h2 : Sm lo hi σ1 σ2) : Sm lo hi σ σ2 := fun b i x y => ⟨(h2 b i x y).1.trans (h b i x y).1, (h2 b i x y).2.trans (h b i x y).2⟩
section ONE
variable {n : Nat} {bt : Nat → Nat} {τ0 σ τ σ' τ' : St} {k : Nat} {c od on : Nat} {rs md nm : Nat → Nat} {m st dp : Nat} {stk kd te sg wh nu pa : Nat → Nat} {kk te0 sg0 wh0 nu0 : Nat}
theorem ER.cc (h : ER σ' τ' m (1656 + 6 * m) kk te0 sg0 wh0 nu0) (c23 : σ'.1 23 m = nI kk) {pa0 : Nat} (hp : ¬ wantsP kk ∨ pa0 = 100) {σ3 : St} (e : ∀ r, 23 ≤ r → r ≤ 26 → σ3.1 r m = σ'.1 r m) (e27 : σ3.1 27 m = (σ'.2 2 8).toInt32) : cE σ3 m kk te0 sg0 wh0 nu0 pa0 := by
  obtain ⟨h1, h2, h3, h4, h5, h6, h7, h8, h9, h10⟩ := h
  refine ⟨(e 23 (by omega) (by omega)).trans c23, fun q => (e 24 (by omega) (by omega)).trans (h1 q).2, fun q r => (e 25 (by omega) (by omega)).trans (h2 q r).2.1, fun q => (e 26 (by omega) (by omega)).trans (h4 q).1, fun q => ?_, fun q r => ?_⟩
  · rw [e27, (h9 q).1, lN_i]
  · rcases hp with y | y
    · exact absurd q y
    · omega
theorem ER.mm (h : ER σ' τ' m (1656 + 6 * m) kk te0 sg0 wh0 nu0) {pa0 : Nat} (hp : ¬ wantsP kk ∨ pa0 = 100) {τ3 : St} (e : ∀ r, r < 6 → τ3.1 93 (1656 + 6 * m + r) = τ'.1 93 (1656 + 6 * m + r)) : mE τ3 m kk te0 sg0 wh0 nu0 pa0 := by
  obtain ⟨h1, h2, h3, h4, h5, h6, h7, h8, h9, h10⟩ := h
  refine ⟨(e 0 (by omega)).trans h10, fun q r => (e 5 (by omega)).trans (h2 q r).2.2, fun q => (e 1 (by omega)).trans (h4 q).2, fun q => (e 2 (by omega)).trans (h9 q).2, fun q r => ?_⟩
  rcases hp with y | y
  · exact absurd q y
  · omega
theorem ER.ww (h : ER σ' τ' m (1656 + 6 * m) kk te0 sg0 wh0 nu0) (hkk : kk = 14 ∨ kk = 15 ∨ kk = 16 ∨ kk = 17 ∨ kk = 18 ∨ kk = 19 ∨ kk = 23 ∨ kk = 25) : WE kk te0 sg0 wh0 nu0 := by
  obtain ⟨h1, h2, h3, h4, h5, h6, h7, h8, h9, h10⟩ := h
  exact ⟨by omega, fun q => (h1 q).1, fun q r => (h2 q r).1, h3, h5, h6, h7, h8⟩
/-- behind a step: what the class does last, and where both stand then -/
def Pd (τ0 : St) (bt : Nat → Nat) (n k kk c od on : Nat) (rs md nm : Nat → Nat) (x3 : Int32) (σ3 τ3 : St) : Prop := ∃ (x' : Int32) (σ4 : St) (k' m st dp : Nat) (stk kd te sg wh nu pa : Nat → Nat), DT_innermostBehind σ3 22 (nI kk) x3 = some (x', σ4) ∧ k < k' ∧ PK τ0 σ4 τ3 bt n k' ∧ DQ σ4 τ3 m st dp stk kd te sg wh nu pa ∧ x' = tp dp stk ∧ CV σ4 7 c od on rs md nm
theorem wantsP_n {a : Nat} (h : ¬ (a = 19 ∨ a = 23 ∨ a = 24)) : ¬ wantsP a := h
theorem plain_fin (h : PK τ0 σ' τ' bt n k) (hC : CV σ' 7 c od on rs md nm) (hq : DQ σ τ m st dp stk kd te sg wh nu pa) (F : Fp (Cq m) σ σ') (G : Fp (Bq m) τ τ') (hst : st < 30) (c6 : σ'.1 22 6 = nI (m + 1)) (c7 : σ'.1 22 7 = nI (st + 1)) (c23 : σ'.1 23 m = nI kk) (m18 : τ'.1 93 1618 = nI (m + 1)) (m22 : τ'.1 92 22 = nI (st + 1)) (m21 : τ'.1 92 21 = nI dp) (m100 : ∀ i, τ'.1 100 i = τ.1 100 i) (hE : ER σ' τ' m (1656 + 6 * m) kk te0 sg0 wh0 nu0) (hkk : kk = 14 ∨ kk = 15 ∨ kk = 16 ∨ kk = 17 ∨ kk = 18 ∨ kk = 25) : RX τ0 (Pd τ0 bt n k kk c od on rs md nm (tp dp stk)) (bd2 (Re_take (wI σ' 27 m ((σ'.2 2 8).toInt32)) 5) (fun r21 s22 => chk (ckz r21) (some (r21, s22)))) (bd2 (Mo_wantSign τ' 59) (fun r30 s31 => chk (ckz r30) (some (r30, s31)))) := by
  have F1 : Fp (fun a j => a = 27 ∧ j = m) σ' (wI σ' 27 m ((σ'.2 2 8).toInt32)) := Fp.wI (A := fun a j => a = 27 ∧ j = m) (Fp.rf (A := fun a j => a = 27 ∧ j = m)) ⟨rfl, rfl⟩
  have h1 : PK τ0 (wI σ' 27 m ((σ'.2 2 8).toInt32)) τ' bt n k := ⟨h.1.kp F1 (fun i => by omega) (by omega), h.2⟩
  refine RX.ck (RX.mono (takeS h1) (fun σ3 τ3 hN => ?_))
  obtain ⟨n1, n2, n3⟩ := hN
  obtain ⟨q1, q2, q3, q4, q5, q6, q7, q8, q9, q10, q11⟩ := hq
  have e6 : σ3.1 22 6 = nI (m + 1) := (n2.i (by unfold C2; omega)).trans ((wI_ne (by omega)).trans c6)
  have hP : ¬ wantsP kk := wantsP_n (by omega)
  have F3 : Fp (Cq m) σ σ3 := (F.tr (F1.mono (fun a j q => by unfold Cq; omega))).tr (n2.mono (fun a j q => Or.inl q))
  have G3 : Fp (Bq m) τ τ3 := G.tr (n3.mono (fun a j q => Or.inl q))
  refine ⟨tp dp stk, σ3, k + 1, m + 1, st + 1, dp, stk, fset kd m kk, fset te m te0, fset sg m sg0, fset wh m wh0, fset nu m nu0, fset pa m 0, ?_, by omega, n1, ⟨e6, ?_, ?_, ?_, ?_, by omega, by omega, q8, fun i hi => ⟨?_, ?_⟩, ?_, ?_⟩, rfl, ?_⟩
  · unfold DT_innermostBehind
    have ho : DT_isOpener (nI kk) = some 0 := by
      unfold DT_isOpener
      rw [if_neg (show ¬ nI kk = 19 by rw [show (19 : Int32) = nI 19 from rfl, eq_nI (by omega) (by omega)]; omega), if_neg (show ¬ nI kk = 23 by rw [show (23 : Int32) = nI 23 from rfl, eq_nI (by omega) (by omega)]; omega)]
    rw [e6, bnd_x, ho, bd_s, if_pos rfl, if_neg (show ¬ nI kk = 24 by rw [show (24 : Int32) = nI 24 from rfl, eq_nI (by omega) (by omega)]; omega)]
  · exact (n2.i (by unfold C2; omega)).trans ((wI_ne (by omega)).trans c7)
  · exact (n3.i (by unfold A4; omega)).trans m18
  · exact (n3.i (by unfold A4; omega)).trans m21
  · exact (n3.i (by unfold A4; omega)).trans m22
  · have := (q11.2.2.1 i hi).1
    rw [F3.i (by unfold Cq; omega)]; exact (q9 i hi).1
  · exact (n3.i (by unfold A4; omega)).trans ((m100 i).trans (q9 i hi).2)
  · refine (q10.kp F3 G3).push (hE.cc c23 (Or.inl hP) (fun r r1 r2 => (n2.i (by unfold C2; omega)).trans (wI_ne (by omega))) ((n2.i (by unfold C2; omega)).trans wI_s)) (hE.mm (Or.inl hP) (fun r hr => n3.i (by unfold A4; omega))) (hE.ww (by omega))
  · exact q11.plain (fun j hj => fset_2 _ _ (by omega)) (fun j hj => fset_2 _ _ (by omega)) (by rw [fset_1]; exact hP)
  · exact hC.keep ((F1.sm (fun b i _ _ q => by omega)).tr' (n2.sm (fun b i _ _ q => by unfold C2 at q; omega)))
end ONE
