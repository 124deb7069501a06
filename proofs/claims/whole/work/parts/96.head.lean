section HED
variable {n : Nat} {bt : Nat → Nat} {τ0 σ τ σ' τ' : St} {k : Nat} {c od on : Nat} {rs md nm : Nat → Nat} {m st dp : Nat} {stk kd te sg wh nu pa : Nat → Nat}
theorem Bq_M {a j : Nat} (hm : m < 60) (h : Bq m a j) : AM a j := by
  rcases h with h | h | h | h
  · exact A4_M h
  · unfold AM; omega
  · unfold AM; omega
  · unfold AM; omega
theorem head_m (h : PM τ0 τ bt n k) (h18 : τ.1 93 1618 = nI m) (hm : m < 60) {q v : Nat} {s0 s1 l4 : Int32} (hv : s1 + s0 = nI v) : ∃ τ2, Mo_dayStep_J128 τ (nI q) (nI m) (nI (1656 + 6 * m)) l4 s0 s1 = bd2 (Mo_dayOrder τ2 (nI q) (nI (1656 + 6 * m))) (fun r27 s28 => if r27 = 0 then (some (0, s28)) else (if l4 = 0 then (Mo_dayStep_J217 s28 (nI q) (nI m) (nI (1656 + 6 * m))) else (chk (ix (s28.1 92 21) 3) (bnd (wI s28 100 (tn (s28.1 92 21)) (nI m)) (fun s46 => bnd (wI s46 92 21 ((s46.1 92 21) + 1)) (fun s47 => Mo_dayStep_J217 s47 (nI q) (nI m) (nI (1656 + 6 * m)))))))) ∧ PM τ0 τ2 bt n (k + 1) ∧ Fp (Bq m) τ τ2 ∧ τ2.1 93 (1656 + 6 * m) = nI q ∧ τ2.1 93 1618 = nI (m + 1) ∧ τ2.1 92 22 = nI v ∧ τ2.1 92 21 = τ.1 92 21 ∧ (∀ i, τ2.1 100 i = τ.1 100 i) := by
  obtain ⟨ρ, r1, r2⟩ := zero_n (τ := wI (wI τ 92 22 (nI v)) 93 (1656 + 6 * m) (nI q)) (P := 1656 + 6 * m) (by omega) (nI q) (nI m) l4
  have e18 : ρ.1 93 1618 = nI m := (r2.i (by omega)).trans ((wI_ne (by omega)).trans ((wI_ne (by omega)).trans h18))
  have F1 : Fp (Bq m) τ (wI ρ 93 1618 (nI (m + 1))) := Fp.wI (A := Bq m) ((Fp.wI (A := Bq m) (Fp.wI (A := Bq m) (Fp.rf (A := Bq m)) (by unfold Bq; omega)) (by unfold Bq; omega)).tr (r2.mono (fun a j y => by unfold Bq; omega))) (by unfold Bq; omega)
  have h1 : PM τ0 (wI ρ 93 1618 (nI (m + 1))) bt n k := by
    have F0 : Fp (fun a j => (a = 92 ∧ j = 22) ∨ (a = 93 ∧ 1618 ≤ j)) τ (wI ρ 93 1618 (nI (m + 1))) := Fp.wI (A := fun a j => (a = 92 ∧ j = 22) ∨ (a = 93 ∧ 1618 ≤ j)) ((Fp.wI (A := fun a j => (a = 92 ∧ j = 22) ∨ (a = 93 ∧ 1618 ≤ j)) (Fp.wI (A := fun a j => (a = 92 ∧ j = 22) ∨ (a = 93 ∧ 1618 ≤ j)) (Fp.rf (A := fun a j => (a = 92 ∧ j = 22) ∨ (a = 93 ∧ 1618 ≤ j))) (by omega)) (by omega)).tr (r2.mono (fun a j y => by omega))) (by omega)
    exact h.kp F0 (fun i => by omega) (fun i _ _ => by omega) (fun a j y => by unfold AM; omega)
  obtain ⟨τ2, a1, a2, a3⟩ := ahead_m h1
  refine ⟨τ2, ?_, a2, F1.tr (a3.mono (fun a j y => Or.inl y)), ?_, (a3.i (by unfold A4; omega)).trans wI_s, ?_, ?_, fun i => ?_⟩
  · unfold Mo_dayStep_J128
    rw [hv, bnd_x, ix_nI (by omega) (by omega), chk_true, tn_nI (by omega), bnd_x, r1, bd_s, show ix 1618 2060 = true by decide, chk_true, chk_true, show tn 1618 = 1618 from rfl, e18, nI_1, bnd_x, a1, bd_s]
  · exact (a3.i (by unfold A4; omega)).trans ((wI_ne (by omega)).trans ((r2.i (by omega)).trans wI_s))
  · exact (a3.i (by unfold A4; omega)).trans ((wI_ne (by omega)).trans ((r2.i (by omega)).trans ((wI_ne (by omega)).trans wI_s)))
  · exact (a3.i (by unfold A4; omega)).trans ((wI_ne (by omega)).trans ((r2.i (by omega)).trans ((wI_ne (by omega)).trans (wI_ne (by omega)))))
  · exact (a3.i (by unfold A4; omega)).trans ((wI_ne (by omega)).trans ((r2.i (by omega)).trans ((wI_ne (by omega)).trans (wI_ne (by omega)))))
theorem end_DE {d : Nat} {σ4 τ3 : St} (q10 : DE σ τ m kd te sg wh nu pa) (hs : stk d < m) (hk24 : ¬ kd (stk d) = 24) (hm : m < 60) (c4 : ∀ r j, 23 ≤ r → r ≤ 27 → j < m → σ4.1 r j = σ.1 r j) (c28 : ∀ j, j < m → ¬ j = stk d → σ4.1 28 j = σ.1 28 j) (c23 : σ4.1 23 m = 24) (c28m : σ4.1 28 m = nI (stk d)) (c28s : σ4.1 28 (stk d) = nI m) (t3 : ∀ r j, r < 6 → ¬ r = 4 → j < m → τ3.1 93 (1656 + 6 * j + r) = τ.1 93 (1656 + 6 * j + r)) (t4 : ∀ j, j < m → ¬ j = stk d → τ3.1 93 (1656 + 6 * j + 4) = τ.1 93 (1656 + 6 * j + 4)) (tP : τ3.1 93 (1656 + 6 * m) = 14) (t4m : τ3.1 93 (1656 + 6 * m + 4) = nI (stk d)) (t4s : τ3.1 93 (1656 + 6 * stk d + 4) = nI m) : DE σ4 τ3 (m + 1) (fset kd m 24) (fset te m 0) (fset sg m 0) (fset wh m 0) (fset nu m 0) (fset (fset pa m (stk d)) (stk d) m) := by
  intro j hj
  by_cases z : j = m
  · rw [z, fset_1, fset_1, fset_1, fset_1, fset_1, fset_2 _ _ (show ¬ m = stk d by omega), fset_1]
    refine ⟨⟨c23, fun y => by omega, fun y => by omega, fun y => by unfold wantsW at y; omega, fun y => by unfold wantsN at y; omega, fun _ _ => c28m⟩, ⟨?_, fun y => by omega, fun y => by unfold wantsW at y; omega, fun y => by unfold wantsN at y; omega, fun _ _ => t4m⟩, by unfold WE; omega⟩
    rw [if_neg (by omega)]; exact tP
  · rw [fset_2 _ _ z, fset_2 _ _ z, fset_2 _ _ z, fset_2 _ _ z, fset_2 _ _ z]
    have hjm : j < m := by omega
    obtain ⟨⟨a1, a2, a3, a4, a5, a6⟩, ⟨b1, b2, b3, b4, b5⟩, w⟩ := q10 j hjm
    have e1 := fun r (h1 : 23 ≤ r) (h2 : r ≤ 27) => c4 r j h1 h2 hjm
    have e2 := fun r (h1 : r < 6) (h2 : ¬ r = 4) => t3 r j h1 h2 hjm
    refine ⟨⟨(e1 23 (by omega) (by omega)).trans a1, fun y => (e1 24 (by omega) (by omega)).trans (a2 y), fun y x => (e1 25 (by omega) (by omega)).trans (a3 y x), fun y => (e1 26 (by omega) (by omega)).trans (a4 y), fun y => (e1 27 (by omega) (by omega)).trans (a5 y), fun y x => ?_⟩, ⟨(e2 0 (by omega) (by omega)).trans b1, fun y x => (e2 5 (by omega) (by omega)).trans (b2 y x), fun y => (e2 1 (by omega) (by omega)).trans (b3 y), fun y => (e2 2 (by omega) (by omega)).trans (b4 y), fun y x => ?_⟩, w⟩
    · by_cases s : j = stk d
      · rw [s, fset_1]; exact c28s
      · rw [fset_2 _ _ s, fset_2 _ _ z] at x ⊢
        exact (c28 j hjm s).trans (a6 y x)
    · by_cases s : j = stk d
      · rw [s, fset_1]; exact t4s
      · rw [fset_2 _ _ s, fset_2 _ _ z] at x ⊢
        exact (t4 j hjm s).trans (b5 y x)
end HED
