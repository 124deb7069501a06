section RST
variable {n : Nat} {bt : Nat → Nat} {τ0 σ τ : St} {k : Nat} {c od on : Nat} {rs md nm : Nat → Nat}
def ER (σ' τ' : St) (m P kd te sg wh nu : Nat) : Prop := (kd = 19 → (te = 15 ∨ te = 20 ∨ te = 21 ∨ te = 22) ∧ σ'.1 24 m = nI te) ∧ (kd = 19 → te = 22 → (sg = 6 ∨ sg = 7 ∨ sg = 8) ∧ σ'.1 25 m = nI sg ∧ τ'.1 93 (P + 5) = nI (sgM sg)) ∧ wh < 12 ∧ (wantsW kd te → σ'.1 26 m = nI wh ∧ τ'.1 93 (P + 1) = nI wh) ∧ nu ≤ 9999 ∧ (kd = 16 → nu ≤ 59) ∧ (kd = 17 → 2 ≤ nu ∧ nu ≤ 7) ∧ (kd = 23 → 1 ≤ nu ∧ nu ≤ 99) ∧ (wantsN kd te → σ'.2 2 8 = lN nu ∧ τ'.1 93 (P + 2) = nI nu) ∧ τ'.1 93 P = nI (if kd = 19 then 890 + te else kd - 10)
def RS (τ0 : St) (bt : Nat → Nat) (n k m P kd : Nat) (σ τ σ' τ' : St) : Prop := ∃ k', k ≤ k' ∧ PK τ0 σ' τ' bt n k' ∧ Fp (Cr m) σ σ' ∧ Fp (Br P) τ τ' ∧ ∃ te sg wh nu, ER σ' τ' m P kd te sg wh nu
theorem rest_x (h : PK τ0 σ τ bt n k) (hC : CV σ 7 c od on rs md nm) (hM : MV τ0 0 0 c od on rs md nm) (w : WF c od on rs md nm) {m P kd : Nat} (hm : m < 60) (hP : 1616 ≤ P) (hP2 : P + 6 ≤ 2060) (hkd : kd = 14 ∨ kd = 15 ∨ kd = 16 ∨ kd = 17 ∨ kd = 18 ∨ kd = 19 ∨ kd = 23 ∨ kd = 25) (hk : σ.1 23 m = nI kd) (hP0 : τ.1 93 P = nI (kd - 10)) : RX τ0 (RS τ0 bt n k m P kd σ τ) (DT_takeRest σ 7 22 (nI m)) (Mo_dayOrder τ (nI (kd - 10)) (nI P)) := by
  have hc := w.1
  unfold DT_takeRest Mo_dayOrder
  rw [ix_nI (by omega) (by omega), chk_true, tn_nI (by omega), hk]
  have who : (kd = 14 ∨ kd = 15) → RX τ0 (RS τ0 bt n k m P kd σ τ) (DT_takeWho σ 7 22 (nI m)) (Mo_classTo τ (nI P + 1)) := fun hw => by
    rw [nI_1]
    refine RX.mono (who_x h hC hM w hm hP (p := P + 1) (by omega) (by omega) hP2) (fun σ' τ' q => ?_)
    obtain ⟨q1, q2, q3, x, x1, x2, x3, x4, x5⟩ := q
    rw [if_neg (by omega)] at x5
    exact ⟨_, by omega, q1, q2, q3, 0, 0, x, 0, fun e => by omega, fun e => by omega, by omega, fun _ => ⟨x2, x3⟩, by omega, fun e => by omega, fun e => by omega, fun e => by omega, fun e => by unfold wantsN at e; omega, by rw [if_neg (by omega)]; exact x5.trans hP0⟩
  have num : ∀ lo hi : Nat, hi ≤ 99 → ((kd = 16 ∧ hi ≤ 59 ∨ kd = 23 ∧ 1 ≤ lo) ∧ lo ≤ 9999) → RX τ0 (RS τ0 bt n k m P kd σ τ) (Re_takeNumber σ (nI lo) (nI hi)) (Mo_number τ (nI P + 2) (nI lo) (nI hi)) := fun lo hi h99 hw => by
    rw [show (2 : Int32) = nI 2 from rfl, nI_add]
    refine RX.mono (takeN h (p := P + 2) (lo := lo) (hi := hi) (by omega) (by omega) hw.2 (by omega)) (fun σ' τ' q => ?_)
    obtain ⟨q1, q2, q3, v, v1, v2, v3, v4⟩ := q
    exact ⟨_, by omega, q1, q2.mono (fun a j q => Or.inl q), q3.mono (fun a j q => q.elim (fun y => Or.inl y) (fun y => Or.inr (by omega))), 0, 0, 0, v, fun e => by omega, fun e => by omega, by omega, fun e => by unfold wantsW at e; omega, by omega, fun e => by omega, fun e => by omega, fun e => by omega, fun _ => ⟨v3, v4⟩, by rw [if_neg (by omega)]; exact (q3.i (by unfold A5 A4; omega)).trans hP0⟩
  have no : (kd = 18 ∨ kd = 25) → RX τ0 (RS τ0 bt n k m P kd σ τ) (some (1, σ)) (some (1, τ)) := fun hw => by
    exact RX.one ⟨k, Nat.le_refl _, h, Fp.rf (A := Cr m), Fp.rf (A := Br P), 0, 0, 0, 0, fun e => by omega, fun e => by omega, by omega, fun e => by unfold wantsW at e; omega, by omega, fun e => by omega, fun e => by omega, fun e => by omega, fun e => by unfold wantsN at e; omega, by rw [if_neg (by omega)]; exact hP0⟩
  rcases hkd with rfl | rfl | rfl | rfl | rfl | rfl | rfl | rfl
  · rw [if_pos (by decide), if_pos (by decide)]
    exact RX.ck (who (by omega))
  · rw [if_neg (by decide), if_pos (by decide), if_neg (by decide), if_pos (by decide)]
    exact RX.ck (who (by omega))
  · rw [if_neg (by decide), if_neg (by decide), if_pos (by decide), if_neg (by decide), if_neg (by decide), if_pos (by decide)]
    exact RX.ck (num 0 59 (by omega) (by omega))
  · rw [if_neg (by decide), if_neg (by decide), if_neg (by decide), if_pos (by decide), if_neg (by decide), if_neg (by decide), if_neg (by decide), if_pos (by decide), nI_1]
    refine RX.sq (who_x h hC hM w hm hP (p := P + 1) (by omega) (by omega) hP2) (fun σ1 τ1 q => ?_)
    obtain ⟨q1, q2, q3, x, x1, x2, x3, x4, x5⟩ := q
    rw [if_neg (by omega)] at x5
    rw [show (2 : Int32) = nI 2 from rfl, nI_add]
    have hN := takeN q1 (p := P + 2) (lo := 2) (hi := 7) (by omega) (by omega) (by omega) (by omega)
    have hN2 : RX τ0 (RS τ0 bt n k m P 17 σ τ) (Re_takeNumber σ1 (nI 2) (nI 7)) (Mo_number τ1 (nI (P + 2)) (nI 2) (nI 7)) := RX.mono hN (fun σ' τ' y => by
      obtain ⟨y1, y2, y3, v, v1, v2, v3, v4⟩ := y
      exact ⟨_, by omega, y1, q2.tr (y2.mono (fun a j q => Or.inl q)), q3.tr (y3.mono (fun a j q => q.elim (fun y => Or.inl y) (fun y => Or.inr (by omega)))), 0, 0, x, v, fun e => by omega, fun e => by omega, by omega, fun _ => ⟨(y2.i (by unfold C2; omega)).trans x2, (y3.i (by unfold A5 A4; omega)).trans x3⟩, by omega, fun e => by omega, fun e => by omega, fun e => by omega, fun _ => ⟨v3, v4⟩, by rw [if_neg (by omega)]; exact (y3.i (by unfold A5 A4; omega)).trans (x5.trans hP0)⟩)
    rcases hN2 with ⟨σ', τ', e1, e2, e3⟩ | ⟨σ', τ', e1, e2, e3⟩
    · have e1' : Re_takeNumber σ1 (nI 2) 7 = some (1, σ') := e1
      have e2' : Mo_number τ1 (nI (P + 2)) (nI 2) 7 = some (1, τ') := e2
      exact Or.inl ⟨σ', τ', by rw [e1', bd2_s, if_neg (by decide)], by rw [e2', bd2_s, if_neg (by decide)], e3⟩
    · have e1' : Re_takeNumber σ1 (nI 2) 7 = some (0, σ') := e1
      have e2' : Mo_number τ1 (nI (P + 2)) (nI 2) 7 = some (0, τ') := e2
      exact Or.inr ⟨σ', τ', by rw [e1', bd2_s, if_pos rfl], by rw [e2', bd2_s, if_pos rfl], e3⟩
  · rw [if_neg (by decide), if_neg (by decide), if_neg (by decide), if_neg (by decide), if_pos (by decide), if_neg (by decide), if_neg (by decide), if_neg (by decide), if_neg (by decide), if_pos (by decide)]
    exact no (by omega)
  · rw [if_neg (by decide), if_neg (by decide), if_neg (by decide), if_neg (by decide), if_neg (by decide), if_pos (by decide), if_neg (by decide), if_neg (by decide), if_neg (by decide), if_neg (by decide), if_neg (by decide), if_pos (by decide)]
    refine RX.ck (RX.mono (test_x h hC hM w hm hP hP2) (fun σ' τ' y => ?_))
    obtain ⟨k', k1, k2, k3, k4, te, sg, wh, nu, t1, t2, t3, t4, t5, t6⟩ := y
    refine ⟨k', by omega, k2, k3, k4, te, sg, (if te = 15 then wh else 0), (if te = 21 ∨ te = 22 then nu else 0), fun _ => ⟨t1, t2⟩, fun _ e => t4 e, ?_, fun e => ?_, ?_, fun e => by omega, fun e => by omega, fun e => by omega, fun e => ?_, by rw [if_pos rfl]; exact t3⟩
    · by_cases e : te = 15
      · rw [if_pos e]; exact (t5 e).1
      · rw [if_neg e]; omega
    · have e15 : te = 15 := by unfold wantsW at e; omega
      rw [if_pos e15]; exact (t5 e15).2
    · by_cases e : te = 21 ∨ te = 22
      · rw [if_pos e]; exact (t6 e).1
      · rw [if_neg e]; omega
    · have e2 : te = 21 ∨ te = 22 := by unfold wantsN at e; omega
      rw [if_pos e2]; exact (t6 e2).2
  · rw [if_neg (by decide), if_neg (by decide), if_neg (by decide), if_neg (by decide), if_neg (by decide), if_neg (by decide), if_neg (by decide), if_neg (by decide), if_neg (by decide), if_pos (by decide), if_neg (by decide), if_neg (by decide), if_neg (by decide), if_neg (by decide), if_neg (by decide), if_neg (by decide), if_neg (by decide), if_neg (by decide), if_neg (by decide), if_pos (by decide)]
    exact RX.ck (num 1 99 (by omega) (by omega))
  · rw [if_neg (by decide), if_neg (by decide), if_neg (by decide), if_neg (by decide), if_neg (by decide), if_neg (by decide), if_neg (by decide), if_neg (by decide), if_neg (by decide), if_neg (by decide), if_neg (by decide), if_neg (by decide), if_neg (by decide), if_neg (by decide), if_neg (by decide), if_neg (by decide), if_neg (by decide), if_neg (by decide), if_neg (by decide), if_neg (by decide)]
    exact no (by omega)
end RST
