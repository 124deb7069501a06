section ONX
variable {n : Nat} {bt : Nat → Nat} {τ0 σ τ σ' τ' : St} {k : Nat} {c od on : Nat} {rs md nm : Nat → Nat} {m st dp kk : Nat} {stk kd te sg wh nu pa : Nat → Nat}
theorem isStep_n {a : Nat} (ha : a < 26) : DT_isStep (nI a) = some (if a = 14 ∨ a = 15 ∨ a = 16 ∨ a = 17 ∨ a = 18 ∨ a = 19 ∨ a = 23 ∨ a = 25 then 1 else 0) := by
  have e : ∀ b : Nat, b < 26 → ((nI a = nI b) ↔ a = b) := fun b hb => by rw [eq_nI (by omega) (by omega)]
  unfold DT_isStep DT_isOpener
  rw [show (15 : Int32) = nI 15 from rfl, show (14 : Int32) = nI 14 from rfl, show (16 : Int32) = nI 16 from rfl, show (17 : Int32) = nI 17 from rfl, show (18 : Int32) = nI 18 from rfl, show (25 : Int32) = nI 25 from rfl, show (19 : Int32) = nI 19 from rfl, show (23 : Int32) = nI 23 from rfl]
  simp only [e 14 (by omega), e 15 (by omega), e 16 (by omega), e 17 (by omega), e 18 (by omega), e 19 (by omega), e 23 (by omega), e 25 (by omega)]
  by_cases h : a = 14 ∨ a = 15 ∨ a = 16 ∨ a = 17 ∨ a = 18 ∨ a = 19 ∨ a = 23 ∨ a = 25
  · rw [if_pos h]
    rcases h with rfl | rfl | rfl | rfl | rfl | rfl | rfl | rfl <;> rfl
  · rw [if_neg h, if_neg (fun q => h (by omega)), if_neg (fun q => h (by omega)), if_neg (fun q => h (by omega)), if_neg (fun q => h (by omega)), if_neg (fun q => h (by omega)), if_neg (fun q => h (by omega)), if_neg (fun q => h (by omega)), if_neg (fun q => h (by omega)), bd_s, if_pos rfl]
theorem isOpener_n {a : Nat} (ha : a < 26) : DT_isOpener (nI a) = some (if a = 19 ∨ a = 23 then 1 else 0) := by
  unfold DT_isOpener
  rw [show (19 : Int32) = nI 19 from rfl, show (23 : Int32) = nI 23 from rfl]
  by_cases h1 : a = 19
  · rw [if_pos (by rw [h1]), if_pos (Or.inl h1)]
  · rw [if_neg (by rw [eq_nI (by omega) (by omega)]; exact h1)]
    by_cases h2 : a = 23
    · rw [if_pos (by rw [h2]), if_pos (Or.inr h2)]
    · rw [if_neg (by rw [eq_nI (by omega) (by omega)]; exact h2), if_neg (by omega)]
/-- the reference's step at a token that is no word of a step -/
theorem isOrder_n {q : Int32} {a : Nat} (hq : q = if 10 ≤ a then nI (a - 10) else -1) (ha : a < 26) : Mo_isOrder q = some (if (14 ≤ a ∧ a ≤ 19) ∨ 23 ≤ a then 1 else 0) := by
  unfold Mo_isOrder
  by_cases h : 10 ≤ a
  · rw [if_pos h] at hq
    rw [hq, show (4 : Int32) = nI 4 from rfl, show (13 : Int32) = nI 13 from rfl, show (9 : Int32) = nI 9 from rfl]
    by_cases h4 : a < 14
    · rw [if_pos (by rw [lt_nI (by omega) (by omega)]; omega), if_pos (by rw [lt_nI (by omega) (by omega)]; omega), if_neg (by omega)]
    · rw [if_neg (by rw [lt_nI (by omega) (by omega)]; omega)]
      by_cases h9 : a ≤ 19
      · rw [if_pos (by rw [le_nI (by omega) (by omega)]; omega), if_pos (by omega)]
      · rw [if_neg (by rw [le_nI (by omega) (by omega)]; omega)]
        by_cases h13 : a < 23
        · rw [if_pos (by rw [lt_nI (by omega) (by omega)]; omega), if_neg (by omega)]
        · rw [if_neg (by rw [lt_nI (by omega) (by omega)]; omega), if_pos (by omega)]
  · rw [if_neg h] at hq
    rw [hq, if_pos (by decide), if_pos (by decide), if_neg (by omega)]
theorem one_x (h : PK τ0 σ τ bt n k) (hk0 : ¬ kC bt n (ts bt n k) = 0) (hC : CV σ 7 c od on rs md nm) (hM : MV τ0 0 0 c od on rs md nm) (w : WF c od on rs md nm) (hq : DQ σ τ m st dp stk kd te sg wh nu pa) : RX τ0 (Pd τ0 bt n k (kC bt n (ts bt n k)) c od on rs md nm (tp dp stk)) (DT_takeOne σ 7 22 (tp dp stk)) (Mo_dayStep τ) := by
  have hkl := (kC_lt bt n (ts bt n k)).1
  have hq' := hq
  obtain ⟨q1, q2, q3, q4, q5, q6, q7, q8, q9, q10, q11⟩ := hq'
  obtain ⟨a, ha⟩ : ∃ a, a = kC bt n (ts bt n k) := ⟨_, rfl⟩
  have mpre : Mo_dayStep τ = Mo_dayStep_J42 τ (if 10 ≤ a then nI (a - 10) else -1) (nI m) (nI (1656 + 6 * m)) (if a = 19 ∨ a = 23 then 1 else 0) := by
    unfold Mo_dayStep
    rw [inW h.2.1, bd_s, ← ha, show ix 1618 2060 = true by decide, chk_true, show tn 1618 = 1618 from rfl, q3, bnd_x, show (6 : Int32) = nI 6 from rfl, pk_mul, show (1656 : Int32) = nI 1656 from rfl, nI_add, bnd_x]
    have d : ∀ p : Nat, p < 16 → (((if 10 ≤ a then nI (a - 10) else -1) = nI p) ↔ a = 10 + p) := fun p hp => by
      by_cases e : 10 ≤ a
      · rw [if_pos e, eq_nI (by omega) (by omega)]; omega
      · rw [if_neg e]
        exact ⟨fun y => absurd y.symm (nI_m1 (by omega)), fun y => by omega⟩
    have d9 : ((if 10 ≤ a then nI (a - 10) else -1) = (9 : Int32)) ↔ a = 19 := d 9 (by omega)
    have d13 : ((if 10 ≤ a then nI (a - 10) else -1) = (13 : Int32)) ↔ a = 23 := d 13 (by omega)
    by_cases e1 : a = 19
    · rw [if_pos (d9.mpr e1), if_pos (Or.inl e1)]
    · rw [if_neg (fun y => e1 (d9.mp y))]
      by_cases e2 : a = 23
      · rw [if_pos (d13.mpr e2), if_pos (Or.inr e2)]
      · rw [if_neg (fun y => e2 (d13.mp y)), if_neg (show ¬ (a = 19 ∨ a = 23) by omega)]
  have hO := isOrder_n (q := if 10 ≤ a then nI (a - 10) else -1) (a := a) rfl (by omega)
  by_cases hs : a = 14 ∨ a = 15 ∨ a = 16 ∨ a = 17 ∨ a = 18 ∨ a = 19 ∨ a = 23 ∨ a = 25
  · have h24 : ¬ nI a = 24 := by rw [show (24 : Int32) = nI 24 from rfl, eq_nI (by omega) (by omega)]; omega
    have cpre : DT_takeOne σ 7 22 (tp dp stk) = DT_takeOne_J35 σ 7 22 (tp dp stk) (nI a) := by
      unfold DT_takeOne
      rw [token_n h.1, bd_s, ← ha, if_neg h24]
    have m70 : Mo_dayStep τ = Mo_dayStep_J70 τ (nI (a - 10)) (nI m) (nI (1656 + 6 * m)) (if a = 19 ∨ a = 23 then 1 else 0) := by
      rw [mpre]
      unfold Mo_dayStep_J42
      rw [hO, bd_s, if_pos (show (14 ≤ a ∧ a ≤ 19) ∨ 23 ≤ a by omega), if_neg (by decide), if_pos (show 10 ≤ a by omega), if_neg (show ¬ nI (a - 10) = 14 by rw [show (14 : Int32) = nI 14 from rfl, eq_nI (by omega) (by omega)]; omega)]
    have n14 : ¬ nI (a - 10) = 14 := by rw [show (14 : Int32) = nI 14 from rfl, eq_nI (by omega) (by omega)]; omega
    rw [cpre, m70, ← ha]
    unfold DT_takeOne_J35 Mo_dayStep_J70
    rw [isStep_n (by omega), if_pos hs, bd_s, if_neg (by decide), q2, if_neg n14, q5]
    by_cases s30 : st < 30
    · rw [if_pos (show nI st < 30 by rw [show (30 : Int32) = nI 30 from rfl, lt_nI (by omega) (by omega)]; exact s30), if_neg (show ¬ nI st = 30 by rw [show (30 : Int32) = nI 30 from rfl, eq_nI (by omega) (by omega)]; omega), isOpener_n (by omega), bd_s]
      unfold Mo_dayStep_J92
      by_cases ho : a = 19 ∨ a = 23
      · rw [if_pos ho, if_neg (by decide), if_neg (by decide), depth_n q8 (fun i hi => by have := (q11.2.2.1 i hi).1; omega) (fun i hi => (q9 i hi).1), bd_s, q4]
        by_cases d3 : dp < 3
        · rw [if_pos (show nI dp < 3 by rw [show (3 : Int32) = nI 3 from rfl, lt_nI (by omega) (by omega)]; exact d3), if_neg (show ¬ nI dp = 3 by rw [show (3 : Int32) = nI 3 from rfl, eq_nI (by omega) (by omega)]; omega)]
          unfold Mo_dayStep_J112
          rw [if_neg n14]
          exact new_J h hC hM w hq ha.symm hs s30 (fun _ => d3) (by rw [if_pos ho])
        · rw [if_neg (show ¬ nI dp < 3 by rw [show (3 : Int32) = nI 3 from rfl, lt_nI (by omega) (by omega)]; exact d3), if_pos (show nI dp = 3 by rw [show (3 : Int32) = nI 3 from rfl, eq_nI (by omega) (by omega)]; omega)]
          exact blame_x h (p := 7) (by omega) (by omega)
      · rw [if_neg ho, if_pos rfl, if_pos rfl]
        unfold Mo_dayStep_J112
        rw [if_neg n14]
        exact new_J h hC hM w hq ha.symm hs s30 (fun y => absurd y ho) (by rw [if_neg ho])
    · rw [if_neg (show ¬ nI st < 30 by rw [show (30 : Int32) = nI 30 from rfl, lt_nI (by omega) (by omega)]; exact s30), if_pos (show nI st = 30 by rw [show (30 : Int32) = nI 30 from rfl, eq_nI (by omega) (by omega)]; omega)]
      exact blame_x h (p := 6) (by omega) (by omega)
  · by_cases e24 : a = 24
    · by_cases d0 : dp = 0
      · have ht : tp dp stk = -1 := by unfold tp; rw [if_pos d0]
        have cpre : DT_takeOne σ 7 22 (tp dp stk) = bd2 (Re_blame σ 2) (fun r s => chk (ckz r) (some (r, s))) := by
          unfold DT_takeOne
          rw [token_n h.1, bd_s, ← ha, e24, if_pos (show nI 24 = 24 by decide), if_pos ht]
          unfold DT_takeOne_J35
          rw [isStep_n (by omega), if_neg (by omega), bd_s, if_pos rfl]
        have m42 : Mo_dayStep τ = bd2 (Mo_fails τ 2) (fun r s => chk (ckz r) (some (r, s))) := by
          rw [mpre]
          unfold Mo_dayStep_J42
          rw [hO, bd_s, if_pos (show (14 ≤ a ∧ a ≤ 19) ∨ 23 ≤ a by omega), if_neg (by decide), if_pos (show 10 ≤ a by omega), if_pos (show nI (a - 10) = 14 by rw [e24]; rfl), if_pos (show τ.1 92 21 = 0 by rw [q4, d0]; rfl)]
        rw [cpre, m42]
        exact blame_x h (p := 2) (by omega) (by omega)
      · obtain ⟨d, rfl⟩ : ∃ d, dp = d + 1 := ⟨dp - 1, by omega⟩
        have := end_x h (by rw [← ha]; exact e24) hC hq
        rw [← ha, e24]
        exact this
    · have h24 : ¬ nI a = 24 := by rw [show (24 : Int32) = nI 24 from rfl, eq_nI (by omega) (by omega)]; exact e24
      have cpre : DT_takeOne σ 7 22 (tp dp stk) = bd2 (Re_blame σ 2) (fun r s => chk (ckz r) (some (r, s))) := by
        unfold DT_takeOne
        rw [token_n h.1, bd_s, ← ha, if_neg h24]
        unfold DT_takeOne_J35
        rw [isStep_n (by omega), if_neg hs, bd_s, if_pos rfl]
      have m42 : Mo_dayStep τ = bd2 (Mo_fails τ 2) (fun r s => chk (ckz r) (some (r, s))) := by
        rw [mpre]
        unfold Mo_dayStep_J42
        rw [hO, bd_s, if_neg (show ¬ ((14 ≤ a ∧ a ≤ 19) ∨ 23 ≤ a) by omega), if_pos rfl]
      rw [cpre, m42]
      exact blame_x h (p := 2) (by omega) (by omega)
end ONX
