section DYE
variable {n : Nat} {bt : Nat → Nat} {m st : Nat} {stk kd te sg wh nu pa : Nat → Nat}
theorem copyD7 {σ σ' : St} {a b : Nat} (hab : a + 6 < b ∨ b + 6 < a) (h : Da_copyFrom σ a b = some σ') : σ'.1 a 7 = σ.1 b 7 := by
  have hk : cpk 0 0 60 60 60 = true := cpk_n (s := 0) (d := 0) (n := 60) (by omega) (by omega) (by omega) (by omega)
  unfold Da_copyFrom at h
  rw [hk] at h
  simp only [chk_true, bnd_x] at h
  have h2 := (chk_e h).2
  have h3 := Option.some.inj h2
  rw [← h3, wI_ne (by omega), wI_s, wI_ne (by omega), rI_ne (by omega), rI_ne (by omega), rI_ne (by omega), rI_ne (by omega), rI_ne (by omega), rI_ne (by omega)]
def A9e (a j : Nat) : Prop := a = 93 ∧ 40 ≤ j ∧ j < 400
theorem copyE {τ : St} : ∃ τ', iter (fun s : (Int32 × St) => Mo_days_L101 s.2 s.1) FUEL (40, τ) = some τ' ∧ (∀ j, 40 ≤ j → j < 400 → τ'.1 93 j = τ.1 93 (1616 + j)) ∧ Fp A9e τ τ' := by
  have key := iter_cnt (body := fun s : (Int32 × St) => Mo_days_L101 s.2 s.1) (fun k s => s.1 = nI k ∧ (∀ j, 40 ≤ j → j < k → s.2.1 93 j = τ.1 93 (1616 + j)) ∧ Fp A9e τ s.2) (fun e => (∀ j, 40 ≤ j → j < 400 → e.1 93 j = τ.1 93 (1616 + j)) ∧ Fp A9e τ e) (lo := 40) (hi := 400) (n := FUEL) (by omega) (fuel (by omega)) ?_ ?_ (s := (40, τ)) ⟨rfl, fun j hj hj2 => by omega, Fp.rf (A := A9e)⟩
  · exact key
  · rintro k ⟨_, u⟩ h1 h2 ⟨rfl, hq, F⟩
    have hq : ∀ j, 40 ≤ j → j < k → u.1 93 j = τ.1 93 (1616 + j) := hq
    have F : Fp A9e τ u := F
    refine ⟨(nI (k + 1), wI u 93 k (u.1 93 (1616 + k))), ?_, rfl, fun j hj hj2 => ?_, Fp.wI (A := A9e) F (by unfold A9e; omega)⟩
    · show Mo_days_L101 u (nI k) = _
      unfold Mo_days_L101
      rw [show (400 : Int32) = nI 400 from rfl, if_neg (by rw [le_nI (by omega) (by omega)]; omega), show (1616 : Int32) = nI 1616 from rfl, nI_add, ix_nI (by omega) (by omega), chk_true, ix_nI (by omega) (by omega), chk_true, tn_nI (a := k) (by omega), tn_nI (by omega), bnd_x, nI_1, bnd_x]
    · show (wI u 93 k (u.1 93 (1616 + k))).1 93 j = _
      by_cases e : j = k
      · rw [e, wI_s, F.i (by unfold A9e; omega)]
      · rw [wI_ne (by omega)]; exact hq j hj (by omega)
  · rintro ⟨_, u⟩ ⟨rfl, hq, F⟩
    refine ⟨u, ?_, hq, F⟩
    show Mo_days_L101 u (nI 400) = _
    unfold Mo_days_L101
    rw [show (400 : Int32) = nI 400 from rfl, if_pos (by rw [le_nI (by omega) (by omega)]; omega)]
def A9d (a j : Nat) : Prop := (a = 93 ∧ (j = 2 ∨ (40 ≤ j ∧ j < 400))) ∨ (a = 92 ∧ (j = 2 ∨ j = 16))
theorem dayJ {τ : St} (h18 : τ.1 92 18 = 0) (hm : τ.1 93 1618 = nI m) (h22 : τ.1 92 22 = nI st) : ∃ τ', Mo_days_J77 τ = some (nI st, τ') ∧ τ'.1 93 2 = nI m ∧ (∀ j, 40 ≤ j → j < 400 → τ'.1 93 j = τ.1 93 (1616 + j)) ∧ τ'.1 92 16 = 0 ∧ τ'.1 92 2 = 0 ∧ Fp A9d τ τ' := by
  obtain ⟨ρ, r1, r2, r3⟩ := copyE (τ := wI τ 93 2 (nI m))
  have e18 : ρ.1 92 18 = 0 := (r3.i (by unfold A9e; omega)).trans ((wI_ne (by omega)).trans h18)
  have e22 : ρ.1 92 22 = nI st := (r3.i (by unfold A9e; omega)).trans ((wI_ne (by omega)).trans h22)
  refine ⟨wI (wI ρ 92 16 0) 92 2 0, ?_, ?_, fun j h1 h2 => ?_, ?_, wI_s, ?_⟩
  · unfold Mo_days_J77
    rw [if_pos h18, show ix 1618 2060 = true by decide, chk_true, show ix 2 2060 = true by decide, chk_true, show tn 1618 = 1618 from rfl, show tn 2 = 2 from rfl, hm, bnd_x, r1, bd_s, e22, taken_ok e18, bd2_s]
  · rw [wI_ne (by omega), wI_ne (by omega), r3.i (by unfold A9e; omega), wI_s]
  · rw [wI_ne (by omega), wI_ne (by omega), r2 j h1 h2, wI_ne (by omega)]
  · rw [wI_ne (by omega), wI_s]
  · exact Fp.wI (A := A9d) (Fp.wI (A := A9d) ((Fp.wI (A := A9d) (Fp.rf (A := A9d)) (by unfold A9d; omega)).tr (r3.mono (fun a j q => by unfold A9e at q; unfold A9d; omega))) (by unfold A9d; omega)) (by unfold A9d; omega)
theorem dayF {τ : St} {e : Nat} (h1 : 1 ≤ e) (h7 : e ≤ 7) (h18 : τ.1 92 18 = nI e) : Mo_days_J77 τ = some (-1, wI (wI τ 92 16 (nI e)) 92 2 9) := by
  unfold Mo_days_J77
  rw [if_neg (show ¬ τ.1 92 18 = 0 by rw [h18, show (0 : Int32) = nI 0 from rfl, eq_nI (by omega) (by omega)]; omega), taken_no h1 h7 h18, bd2_s]
/-- at the end of a text: the days are well formed, on both sides alike -/
theorem day_done {σ τ σ1 τ1 : St} (h : DQ σ τ m st 0 stk kd te sg wh nu pa) (k8 : σ1.1 15 8 = 1) (k6 : σ1.1 15 6 = σ.1 22 6) (r : ∀ j k, 1 ≤ j → j ≤ 6 → k < 60 → σ1.1 (15 + j) k = σ.1 (22 + j) k) (t2 : τ1.1 93 2 = nI m) (t : ∀ j, 40 ≤ j → j < 400 → τ1.1 93 j = τ.1 93 (1616 + j)) : DVc σ1 15 m kd te sg wh nu pa ∧ DVm τ1 0 m kd te sg wh nu pa ∧ WD m kd te sg wh nu pa := by
  obtain ⟨q1, q2, q3, q4, q5, q6, q7, q8, q9, q10, w1, w2, w3, w4, w5⟩ := h
  have hm : m ≤ 60 := by omega
  have p1 : ∀ k, k < m → kd k = 19 ∨ kd k = 23 → k < pa k ∧ pa k < m ∧ kd (pa k) = 24 ∧ pa (pa k) = k := fun k hk y => by
    rcases w1 k hk y with ⟨_, i, i1, _⟩ | z
    · exact absurd i1 (Nat.not_lt_zero _)
    · exact z
  have pl : ∀ k, k < m → wantsP (kd k) → pa k < 100 := fun k hk y => by
    by_cases z : kd k = 24
    · have := (w2 k hk z).1; omega
    · have := (p1 k hk (by unfold wantsP at y; omega)).2.1; omega
  have tt : ∀ k i, k < m → i < 6 → τ1.1 93 (0 + (40 + i + 6 * k)) = τ.1 93 (1656 + 6 * k + i) := fun k i hk hi => by
    rw [Nat.zero_add, t _ (by omega) (by omega), show 1616 + (40 + i + 6 * k) = 1656 + 6 * k + i by omega]
  refine ⟨⟨k8, k6.trans q1, fun k hk => ?_⟩, ⟨t2, fun k hk => ?_⟩, hm, fun k hk => ?_⟩
  · obtain ⟨⟨a1, a2, a3, a4, a5, a6⟩, _, _⟩ := q10 k hk
    exact ⟨(r 1 k (by omega) (by omega) (by omega)).trans a1, fun y => (r 2 k (by omega) (by omega) (by omega)).trans (a2 y), fun y x => (r 3 k (by omega) (by omega) (by omega)).trans (a3 y x), fun y => (r 4 k (by omega) (by omega) (by omega)).trans (a4 y), fun y => (r 5 k (by omega) (by omega) (by omega)).trans (a5 y), fun y => (r 6 k (by omega) (by omega) (by omega)).trans (a6 y (pl k hk y))⟩
  · obtain ⟨_, ⟨b1, b2, b3, b4, b5⟩, _⟩ := q10 k hk
    exact ⟨(tt k 0 hk (by omega)).trans b1, fun y x => (tt k 5 hk (by omega)).trans (b2 y x), fun y => (tt k 1 hk (by omega)).trans (b3 y), fun y => (tt k 2 hk (by omega)).trans (b4 y), fun y => (tt k 4 hk (by omega)).trans (b5 y (pl k hk y))⟩
  · obtain ⟨_, _, e1, e2, e3, e4, e5, e6, e7, e8⟩ := q10 k hk
    exact ⟨e1, e2, e3, e4, e5, e6, e7, e8, fun y => p1 k hk y, fun y => w2 k hk y⟩
end DYE
