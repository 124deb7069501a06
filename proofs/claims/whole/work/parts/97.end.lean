section ENX
variable {n : Nat} {bt : Nat → Nat} {τ0 σ τ σ' τ' : St} {k : Nat} {c od on : Nat} {rs md nm : Nat → Nat} {m st dp d : Nat} {stk kd te sg wh nu pa : Nat → Nat}
theorem dayO_no (τ : St) (P : Int32) {q : Nat} (hq : q = 14 ∨ q = 15 ∨ q = 8) : Mo_dayOrder τ (nI q) P = some (1, τ) := by
  unfold Mo_dayOrder
  rcases hq with rfl | rfl | rfl
  · rw [if_neg (by decide), if_neg (by decide), if_neg (by decide), if_neg (by decide), if_neg (by decide), if_neg (by decide), if_neg (by decide), if_neg (by decide), if_neg (by decide), if_neg (by decide)]
  · rw [if_neg (by decide), if_neg (by decide), if_neg (by decide), if_neg (by decide), if_neg (by decide), if_neg (by decide), if_neg (by decide), if_neg (by decide), if_neg (by decide), if_neg (by decide)]
  · rw [if_neg (by decide), if_neg (by decide), if_neg (by decide), if_neg (by decide), if_pos (by decide)]
theorem end_J {τ2 : St} (hm : m < 60) (hs : stk d < 60) (hd : d < 3) (h21 : τ2.1 92 21 = nI (d + 1)) (h100 : τ2.1 100 d = nI (stk d)) : Mo_dayStep_J217 τ2 (nI 14) (nI m) (nI (1656 + 6 * m)) = bd2 (Mo_wantSign (wI (wI (wI τ2 92 21 (nI d)) 93 (1656 + 6 * m + 4) (nI (stk d))) 93 (1656 + 6 * stk d + 4) (nI m)) 59) (fun r41 s42 => chk (ckz r41) (some (r41, s42))) := by
  have e1 : (wI τ2 92 21 (nI d)).1 92 21 = nI d := wI_s
  have e2 : (wI τ2 92 21 (nI d)).1 100 d = nI (stk d) := (wI_ne (by omega)).trans h100
  have e3 : (wI (wI τ2 92 21 (nI d)) 93 (1656 + 6 * m + 4) (nI (stk d))).1 92 21 = nI d := (wI_ne (by omega)).trans e1
  have e4 : (wI (wI τ2 92 21 (nI d)) 93 (1656 + 6 * m + 4) (nI (stk d))).1 100 d = nI (stk d) := (wI_ne (by omega)).trans e2
  unfold Mo_dayStep_J217
  rw [if_pos (by decide), h21, sub1_n, bnd_x, e1, ix_nI (by omega) (by omega), chk_true, show (4 : Int32) = nI 4 from rfl, nI_add, ix_nI (by omega) (by omega), chk_true, tn_nI (a := d) (by omega), tn_nI (a := 1656 + 6 * m + 4) (by omega), e2, bnd_x, e3, ix_nI (by omega) (by omega), chk_true, tn_nI (a := d) (by omega), e4, show (6 : Int32) = nI 6 from rfl, pk_mul, show (1656 : Int32) = nI 1656 from rfl, nI_add, nI_add, ix_nI (by omega) (by omega), chk_true, tn_nI (by omega), bnd_x]
theorem end_m (h : TkM τ bt n (ts bt n k)) (hk : kC bt n (ts bt n k) = 24) (h18 : τ.1 93 1618 = nI m) (hm : m < 60) (h21 : ¬ τ.1 92 21 = 0) : Mo_dayStep τ = Mo_dayStep_J128 τ (nI 14) (nI m) (nI (1656 + 6 * m)) 0 0 (τ.1 92 22) := by
  have ho : Mo_isOrder (nI 14) = some 1 := by
    unfold Mo_isOrder
    rw [if_neg (by decide), if_neg (by decide), if_neg (by decide)]
  unfold Mo_dayStep
  rw [inW h, bd_s, hk, if_pos (show 10 ≤ 24 by decide), show ix 1618 2060 = true by decide, chk_true, show tn 1618 = 1618 from rfl, h18, bnd_x, show (6 : Int32) = nI 6 from rfl, pk_mul, show (1656 : Int32) = nI 1656 from rfl, nI_add, bnd_x, if_neg (by decide), if_neg (by decide)]
  unfold Mo_dayStep_J42
  rw [show nI (24 - 10) = nI 14 from rfl, ho, bd_s, if_neg (by decide), if_pos (by decide), if_neg h21]
  unfold Mo_dayStep_J70
  rw [if_pos (by decide)]
  unfold Mo_dayStep_J92
  rw [if_pos rfl]
  unfold Mo_dayStep_J112
  rw [if_pos (by decide)]
theorem end_x (h : PK τ0 σ τ bt n k) (hk : kC bt n (ts bt n k) = 24) (hC : CV σ 7 c od on rs md nm) (hq : DQ σ τ m st (d + 1) stk kd te sg wh nu pa) : RX τ0 (Pd τ0 bt n k 24 c od on rs md nm (tp (d + 1) stk)) (DT_takeOne σ 7 22 (tp (d + 1) stk)) (Mo_dayStep τ) := by
  obtain ⟨q1, q2, q3, q4, q5, q6, q7, q8, q9, q10, q11⟩ := hq
  have hm : m < 60 := by omega
  have htop := (q11.2.2.1 d (by omega))
  obtain ⟨s1, s2, s3⟩ := htop
  have hst : tp (d + 1) stk = nI (stk d) := by unfold tp; rw [if_neg (by omega), Nat.add_sub_cancel]
  have F1 : Fp (fun a j => (a = 23 ∧ j = m) ∨ (a = 22 ∧ j = 6)) σ (wI (wI σ 23 m 24) 22 6 (nI (m + 1))) := Fp.wI (A := fun a j => (a = 23 ∧ j = m) ∨ (a = 22 ∧ j = 6)) (Fp.wI (A := fun a j => (a = 23 ∧ j = m) ∨ (a = 22 ∧ j = 6)) (Fp.rf (A := fun a j => (a = 23 ∧ j = m) ∨ (a = 22 ∧ j = 6))) (Or.inl ⟨rfl, rfl⟩)) (Or.inr ⟨rfl, rfl⟩)
  have hc1 : PC (wI (wI σ 23 m 24) 22 6 (nI (m + 1))) bt n k := h.1.kp F1 (fun i => by omega) (by omega)
  obtain ⟨σb, b1, b2, b3⟩ := step_c hc1 (hc1.go (by omega))
  have cpre : DT_takeOne σ 7 22 (tp (d + 1) stk) = bd2 (Re_take σb 5) (fun r49 s50 => chk (ckz r49) (some (r49, s50))) := by
    unfold DT_takeOne
    rw [token_n h.1, bd_s, hk, if_pos (by decide), hst, if_neg (nI_m1 (by omega)), append_n q1 hm, bd2_s, b1, bd_s]
  obtain ⟨τ2, a1, a2, a3, a4, a5, a6, a7, a8⟩ := head_m h.2 q3 hm (q := 14) (v := st) (s0 := 0) (s1 := τ.1 92 22) (l4 := 0) (by rw [q5]; exact Int32.add_zero _)
  have h21 : ¬ τ.1 92 21 = 0 := by rw [q4, show (0 : Int32) = nI 0 from rfl, eq_nI (by omega) (by omega)]; omega
  have mpre : Mo_dayStep τ = bd2 (Mo_wantSign (wI (wI (wI τ2 92 21 (nI d)) 93 (1656 + 6 * m + 4) (nI (stk d))) 93 (1656 + 6 * stk d + 4) (nI m)) 59) (fun r41 s42 => chk (ckz r41) (some (r41, s42))) := by
    rw [end_m h.2.1 hk q3 hm h21, a1, dayO_no _ _ (by omega), bd2_s, if_neg (by decide), if_pos rfl, end_J hm (by omega) (by omega) (a7.trans q4) ((a8 d).trans (q9 d (by omega)).2)]
  obtain ⟨τf, hτf⟩ : ∃ τf, τf = wI (wI (wI τ2 92 21 (nI d)) 93 (1656 + 6 * m + 4) (nI (stk d))) 93 (1656 + 6 * stk d + 4) (nI m) := ⟨_, rfl⟩
  have G1 : Fp (fun a j => (a = 92 ∧ j = 21) ∨ (a = 93 ∧ (j = 1656 + 6 * m + 4 ∨ j = 1656 + 6 * stk d + 4))) τ2 τf := by
    rw [hτf]
    exact Fp.wI (A := fun a j => (a = 92 ∧ j = 21) ∨ (a = 93 ∧ (j = 1656 + 6 * m + 4 ∨ j = 1656 + 6 * stk d + 4))) (Fp.wI (A := fun a j => (a = 92 ∧ j = 21) ∨ (a = 93 ∧ (j = 1656 + 6 * m + 4 ∨ j = 1656 + 6 * stk d + 4))) (Fp.wI (A := fun a j => (a = 92 ∧ j = 21) ∨ (a = 93 ∧ (j = 1656 + 6 * m + 4 ∨ j = 1656 + 6 * stk d + 4))) (Fp.rf (A := fun a j => (a = 92 ∧ j = 21) ∨ (a = 93 ∧ (j = 1656 + 6 * m + 4 ∨ j = 1656 + 6 * stk d + 4)))) (by omega)) (by omega)) (by omega)
  have x21 : τf.1 92 21 = nI d := by rw [hτf, wI_ne (by omega), wI_ne (by omega), wI_s]
  have x4m : τf.1 93 (1656 + 6 * m + 4) = nI (stk d) := by rw [hτf, wI_ne (by omega), wI_s]
  have x4s : τf.1 93 (1656 + 6 * stk d + 4) = nI m := by rw [hτf, wI_s]
  rw [cpre, mpre, ← hτf]
  have h2 : PK τ0 σb τf bt n (k + 1) := ⟨b2, a2.kp G1 (fun i => by omega) (fun i _ _ => by omega) (fun a j q => by unfold AM; omega)⟩
  refine RX.ck (RX.mono (takeS h2) (fun σ3 τ3 hN => ?_))
  obtain ⟨n1, n2, n3⟩ := hN
  have y3 : ∀ r j, ¬ r = 2 → σ3.1 r j = (wI (wI σ 23 m 24) 22 6 (nI (m + 1))).1 r j := fun r j hr => (n2.i (by unfold C2; omega)).trans (b3.i (by unfold C2; omega))
  have e6 : σ3.1 22 6 = nI (m + 1) := (y3 22 6 (by omega)).trans wI_s
  have e28 : σ3.1 28 (stk d) = tp d stk := by
    rw [y3 _ _ (by omega), F1.i (by omega), (q9 d (by omega)).1]; rfl
  have F2 : Fp (fun a j => a = 28) σ3 (wI (wI σ3 28 (stk d) (nI m)) 28 m (nI (stk d))) := Fp.wI (A := fun a j => a = 28) (Fp.wI (A := fun a j => a = 28) (Fp.rf (A := fun a j => a = 28)) rfl) rfl
  have z3 : ∀ r j, ¬ r = 2 → ¬ r = 28 → (wI (wI σ3 28 (stk d) (nI m)) 28 m (nI (stk d))).1 r j = (wI (wI σ 23 m 24) 22 6 (nI (m + 1))).1 r j := fun r j hr hr2 => (F2.i hr2).trans (y3 r j hr)
  have htt := q11.top
  refine ⟨tp d stk, wI (wI σ3 28 (stk d) (nI m)) 28 m (nI (stk d)), k + 1 + 1, m + 1, st, d, stk, fset kd m 24, fset te m 0, fset sg m 0, fset wh m 0, fset nu m 0, fset (fset pa m (stk d)) (stk d) m, ?_, by omega, ⟨n1.1.kp F2 (fun i => by omega) (by omega), n1.2⟩, ⟨(z3 22 6 (by omega) (by omega)).trans wI_s, ?_, ?_, ?_, ?_, by omega, q7, by omega, fun i hi => ⟨?_, ?_⟩, ?_, ?_⟩, rfl, ?_⟩
  · unfold DT_innermostBehind
    have ho : DT_isOpener (nI 24) = some 0 := by
      unfold DT_isOpener
      rw [if_neg (by decide), if_neg (by decide)]
    rw [e6, sub1_n, bnd_x, ho, bd_s, if_pos rfl, if_pos (by decide), hst, if_neg (nI_m1 (by omega)), ix_nI (by omega) (by omega), chk_true, tn_nI (a := stk d) (by omega), e28, bnd_x]
    unfold Da_pair
    rw [ix_nI (a := stk d) (by omega) (by omega), chk_true, tn_nI (a := stk d) (by omega), bnd_x, ix_nI (by omega) (by omega), chk_true, tn_nI (a := m) (by omega), bnd_x, bd_s]
  · rw [z3 _ _ (by omega) (by omega), F1.i (by omega)]; exact q2
  · exact (n3.i (by unfold A4; omega)).trans ((G1.i (by omega)).trans a5)
  · exact (n3.i (by unfold A4; omega)).trans x21
  · exact (n3.i (by unfold A4; omega)).trans ((G1.i (by omega)).trans a6)
  · have hlt := htt i hi
    rw [wI_ne (by omega), wI_ne (by omega), y3 _ _ (by omega), F1.i (by omega)]
    exact (q9 i (by omega)).1
  · exact (n3.i (by unfold A4; omega)).trans ((G1.i (by omega)).trans ((a8 i).trans (q9 i (by omega)).2))
  · refine end_DE q10 s1 (by omega) hm (fun r j r1 r2 hj => ?_) (fun j hj hjs => ?_) ?_ wI_s ?_ (fun r j r1 r2 hj => ?_) (fun j hj hjs => ?_) ?_ ?_ ?_
    · rw [z3 _ _ (by omega) (by omega), F1.i (by omega)]
    · rw [wI_ne (by omega), wI_ne (by omega), y3 _ _ (by omega), F1.i (by omega)]
    · rw [z3 _ _ (by omega) (by omega), wI_ne (by omega), wI_s]
    · rw [wI_ne (by omega), wI_s]
    · exact (n3.i (by unfold A4; omega)).trans ((G1.i (by omega)).trans (a3.i (by unfold Bq A4; omega)))
    · exact (n3.i (by unfold A4; omega)).trans ((G1.i (by omega)).trans (a3.i (by unfold Bq A4; omega)))
    · exact (n3.i (by unfold A4; omega)).trans ((G1.i (by omega)).trans a4)
    · exact (n3.i (by unfold A4; omega)).trans x4m
    · exact (n3.i (by unfold A4; omega)).trans x4s
  · refine q11.cls (by omega) (fun j hj => fset_2 _ _ (by omega)) (fset_1 _ _ _) ?_ (fset_1 _ _ _) (fun j hj hjs => ?_)
    · rw [fset_2 _ _ (show ¬ m = stk d by omega), fset_1]
    · rw [fset_2 _ _ hjs, fset_2 _ _ (show ¬ j = m by omega)]
  · exact hC.keep ((((F1.sm (fun b i _ _ q => by omega)).tr' (b3.sm (fun b i _ _ q => by unfold C2 at q; omega))).tr' (n2.sm (fun b i _ _ q => by unfold C2 at q; omega))).tr' (F2.sm (fun b i _ _ q => by omega)))
end ENX
