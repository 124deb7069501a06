/-! days as a text: openers and ends -/
def WE (kd te sg wh nu : Nat) : Prop := (kd = 14 ∨ kd = 15 ∨ kd = 16 ∨ kd = 17 ∨ kd = 18 ∨ kd = 19 ∨ kd = 23 ∨ kd = 24 ∨ kd = 25) ∧ (kd = 19 → te = 15 ∨ te = 20 ∨ te = 21 ∨ te = 22) ∧ (kd = 19 → te = 22 → sg = 6 ∨ sg = 7 ∨ sg = 8) ∧ wh < 12 ∧ nu ≤ 9999 ∧ (kd = 16 → nu ≤ 59) ∧ (kd = 17 → 2 ≤ nu ∧ nu ≤ 7) ∧ (kd = 23 → 1 ≤ nu ∧ nu ≤ 99)
def SW (m dp : Nat) (stk kd pa : Nat → Nat) : Prop := (∀ k, k < m → kd k = 19 ∨ kd k = 23 → (pa k = 100 ∧ ∃ i, i < dp ∧ stk i = k) ∨ (k < pa k ∧ pa k < m ∧ kd (pa k) = 24 ∧ pa (pa k) = k)) ∧ (∀ k, k < m → kd k = 24 → pa k < k ∧ (kd (pa k) = 19 ∨ kd (pa k) = 23) ∧ pa (pa k) = k ∧ ∀ j, pa k < j → j < k → wantsP (kd j) → pa k < pa j ∧ pa j < k) ∧ (∀ i, i < dp → stk i < m ∧ (kd (stk i) = 19 ∨ kd (stk i) = 23) ∧ pa (stk i) = 100) ∧ (∀ i, i + 1 < dp → stk i < stk (i + 1)) ∧ (∀ i j, i < dp → stk i < j → j < m → wantsP (kd j) → stk i < pa j)
section SWS
variable {m dp : Nat} {stk kd pa kd' pa' : Nat → Nat}
theorem SW.zero : SW 0 0 stk kd pa := ⟨fun k hk => absurd hk (Nat.not_lt_zero _), fun k hk => absurd hk (Nat.not_lt_zero _), fun k hk => absurd hk (Nat.not_lt_zero _), fun k hk => absurd hk (Nat.not_lt_zero _), fun i j hi => absurd hi (Nat.not_lt_zero _)⟩
theorem SW.plain (h : SW m dp stk kd pa) (e : ∀ j, j < m → kd' j = kd j) (ep : ∀ j, j < m → pa' j = pa j) (hk : ¬ wantsP (kd' m)) : SW (m + 1) dp stk kd' pa' := by
  obtain ⟨h1, h2, h3, h4, h5⟩ := h
  have nm19 : ¬ (kd' m = 19 ∨ kd' m = 23) := fun q => hk (by unfold wantsP; omega)
  have nm24 : ¬ kd' m = 24 := fun q => hk (by unfold wantsP; omega)
  refine ⟨fun k k1 k2 => ?_, fun k k1 k2 => ?_, fun i hi => ?_, h4, fun i j hi j1 j2 j3 => ?_⟩
  · have hlt : k < m := by
      rcases Nat.lt_or_eq_of_le (Nat.le_of_lt_succ k1) with q | q
      · exact q
      · rw [q] at k2; exact absurd k2 nm19
    rw [e k hlt] at k2
    rw [ep k hlt]
    rcases h1 k hlt k2 with q | ⟨q1, q2, q3, q4⟩
    · exact Or.inl q
    · exact Or.inr ⟨q1, by omega, by rw [e _ q2]; exact q3, by rw [ep _ q2]; exact q4⟩
  · have hlt : k < m := by
      rcases Nat.lt_or_eq_of_le (Nat.le_of_lt_succ k1) with q | q
      · exact q
      · rw [q] at k2; exact absurd k2 nm24
    rw [e k hlt] at k2
    rw [ep k hlt]
    obtain ⟨q1, q2, q3, q4⟩ := h2 k hlt k2
    refine ⟨q1, by rw [e _ (by omega)]; exact q2, by rw [ep _ (by omega)]; exact q3, fun j j1 j2 j3 => ?_⟩
    rw [e j (by omega)] at j3
    rw [ep j (by omega)]; exact q4 j j1 j2 j3
  · obtain ⟨q1, q2, q3⟩ := h3 i hi
    exact ⟨by omega, by rw [e _ q1]; exact q2, by rw [ep _ q1]; exact q3⟩
  · have hlt : j < m := by
      rcases Nat.lt_or_eq_of_le (Nat.le_of_lt_succ j2) with q | q
      · exact q
      · rw [q] at j3; exact absurd j3 hk
    rw [e j hlt] at j3
    rw [ep j hlt]; exact h5 i j hi j1 hlt j3
theorem SW.opn (h : SW m dp stk kd pa) (hm : m < 100) (e : ∀ j, j < m → kd' j = kd j) (ep : ∀ j, j < m → pa' j = pa j) (hk : kd' m = 19 ∨ kd' m = 23) (hp : pa' m = 100) {stk' : Nat → Nat} (es : ∀ i, i < dp → stk' i = stk i) (em : stk' dp = m) : SW (m + 1) (dp + 1) stk' kd' pa' := by
  obtain ⟨h1, h2, h3, h4, h5⟩ := h
  refine ⟨fun k k1 k2 => ?_, fun k k1 k2 => ?_, fun i hi => ?_, fun i hi => ?_, fun i j hi j1 j2 j3 => ?_⟩
  · rcases Nat.lt_or_eq_of_le (Nat.le_of_lt_succ k1) with hlt | q
    · rw [e k hlt] at k2
      rw [ep k hlt]
      rcases h1 k hlt k2 with ⟨q, i, i1, i2⟩ | ⟨q1, q2, q3, q4⟩
      · exact Or.inl ⟨q, i, by omega, by rw [es i i1]; exact i2⟩
      · exact Or.inr ⟨q1, by omega, by rw [e _ q2]; exact q3, by rw [ep _ q2]; exact q4⟩
    · rw [q]; exact Or.inl ⟨hp, dp, by omega, em⟩
  · have hlt : k < m := by
      rcases Nat.lt_or_eq_of_le (Nat.le_of_lt_succ k1) with q | q
      · exact q
      · rw [q] at k2; omega
    rw [e k hlt] at k2
    rw [ep k hlt]
    obtain ⟨q1, q2, q3, q4⟩ := h2 k hlt k2
    refine ⟨q1, by rw [e _ (by omega)]; exact q2, by rw [ep _ (by omega)]; exact q3, fun j j1 j2 j3 => ?_⟩
    rw [e j (by omega)] at j3
    rw [ep j (by omega)]; exact q4 j j1 j2 j3
  · by_cases c : i = dp
    · rw [c, em]; exact ⟨by omega, hk, hp⟩
    · obtain ⟨q1, q2, q3⟩ := h3 i (by omega)
      rw [es i (by omega)]
      exact ⟨by omega, by rw [e _ q1]; exact q2, by rw [ep _ q1]; exact q3⟩
  · by_cases c : i + 1 = dp
    · rw [c, em, es i (by omega)]; exact (h3 i (by omega)).1
    · rw [es i (by omega), es (i + 1) (by omega)]; exact h4 i (by omega)
  · by_cases c : i = dp
    · rw [c, em] at j1; omega
    · rw [es i (by omega)] at j1 ⊢
      rcases Nat.lt_or_eq_of_le (Nat.le_of_lt_succ j2) with hlt | q
      · rw [e j hlt] at j3
        rw [ep j hlt]; exact h5 i j (by omega) j1 hlt j3
      · rw [q, hp]; omega
theorem SW.top (h : SW m (dp + 1) stk kd pa) : ∀ i, i < dp → stk i < stk dp := by
  have h4 := h.2.2.2.1
  intro i hi
  obtain ⟨d, rfl⟩ : ∃ d, dp = i + 1 + d := ⟨dp - i - 1, by omega⟩
  clear hi
  induction d with
  | zero => exact h4 i (by omega)
  | succ d ih =>
    have a : ∀ i', i' + 1 < i + 1 + d + 1 → stk i' < stk (i' + 1) := fun i' hi' => h4 i' (by omega)
    have b : ∀ e, e ≤ d → stk i < stk (i + 1 + e) := by
      intro e
      induction e with
      | zero => intro _; exact h4 i (by omega)
      | succ e ihe => intro he; exact Nat.lt_trans (ihe (by omega)) (h4 (i + 1 + e) (by omega))
    exact Nat.lt_trans (b d (Nat.le_refl _)) (h4 (i + 1 + d) (by omega))
theorem SW.cls {d : Nat} (h : SW m (d + 1) stk kd pa) (hm : m < 100) (e : ∀ j, j < m → kd' j = kd j) (hk : kd' m = 24) (hpm : pa' m = stk d) (hps : pa' (stk d) = m) (ep : ∀ j, j < m → ¬ j = stk d → pa' j = pa j) : SW (m + 1) d stk kd' pa' := by
  have ht := h.top
  obtain ⟨h1, h2, h3, h4, h5⟩ := h
  obtain ⟨s1, s2, s3⟩ := h3 d (by omega)
  refine ⟨fun k k1 k2 => ?_, fun k k1 k2 => ?_, fun i hi => ?_, fun i hi => h4 i (by omega), fun i j hi j1 j2 j3 => ?_⟩
  · have hlt : k < m := by
      rcases Nat.lt_or_eq_of_le (Nat.le_of_lt_succ k1) with q | q
      · exact q
      · rw [q, hk] at k2; omega
    by_cases c : k = stk d
    · right
      rw [c, hps]
      exact ⟨s1, by omega, hk, hpm⟩
    · rw [e k hlt] at k2
      rw [ep k hlt c]
      rcases h1 k hlt k2 with ⟨q, i, i1, i2⟩ | ⟨q1, q2, q3, q4⟩
      · refine Or.inl ⟨q, i, ?_, i2⟩
        by_cases z : i = d
        · rw [z] at i2; exact absurd i2.symm c
        · omega
      · have z : ¬ pa k = stk d := fun z => by rw [z, s3] at q4; omega
        exact Or.inr ⟨q1, by omega, by rw [e _ q2]; exact q3, by rw [ep _ q2 z]; exact q4⟩
  · rcases Nat.lt_or_eq_of_le (Nat.le_of_lt_succ k1) with hlt | q
    · have c : ¬ k = stk d := fun c => by rw [e k hlt, c] at k2; omega
      rw [e k hlt] at k2
      rw [ep k hlt c]
      obtain ⟨q1, q2, q3, q4⟩ := h2 k hlt k2
      have z : ¬ pa k = stk d := fun z => by rw [z, s3] at q3; omega
      refine ⟨q1, by rw [e _ (by omega)]; exact q2, by rw [ep _ (by omega) z]; exact q3, fun j j1 j2 j3 => ?_⟩
      rw [e j (by omega)] at j3
      have y := q4 j j1 j2 j3
      have zj : ¬ j = stk d := fun zj => by rw [zj, s3] at y; omega
      rw [ep j (by omega) zj]; exact y
    · rw [q, hpm, hps]
      refine ⟨s1, by rw [e _ s1]; exact s2, rfl, fun j j1 j2 j3 => ?_⟩
      rw [e j j2] at j3
      rw [ep j j2 (by omega)]
      refine ⟨h5 d j (by omega) j1 j2 j3, ?_⟩
      by_cases c24 : kd j = 24
      · have := (h2 j j2 c24).1; omega
      · rcases h1 j j2 (by unfold wantsP at j3; omega) with ⟨_, i, i1, i2⟩ | ⟨_, q2, _, _⟩
        · exfalso
          by_cases z : i = d
          · rw [z] at i2; omega
          · have := ht i (by omega); omega
        · exact q2
  · obtain ⟨q1, q2, q3⟩ := h3 i (by omega)
    have := ht i hi
    exact ⟨by omega, by rw [e _ q1]; exact q2, by rw [ep _ q1 (by omega)]; exact q3⟩
  · have hti := ht i hi
    rcases Nat.lt_or_eq_of_le (Nat.le_of_lt_succ j2) with hlt | q
    · by_cases c : j = stk d
      · rw [c, hps]; omega
      · rw [e j hlt] at j3
        rw [ep j hlt c]; exact h5 i j (by omega) j1 hlt j3
    · rw [q, hpm]; exact hti
end SWS
