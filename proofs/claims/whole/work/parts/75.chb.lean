section CHV
variable {m : Nat → Nat} {g : (Nat → Nat) → Nat}
def FT (m : Nat → Nat) (g : (Nat → Nat) → Nat) : Nat → Nat → (Nat → Nat) → (Nat → Nat) → Prop
  | 0, _, r, F => F = r ∧ 0 < g r
  | k + 1, d, r, F => ∃ v, v < m d ∧ (∀ v', v' < v → NW m g k (d + 1) (fset r d v') = 0) ∧ FT m g k (d + 1) (fset r d v) F
theorem sm_z {f : Nat → Nat} : ∀ {n : Nat}, fb_sm f n = 0 → ∀ i, i < n → f i = 0
  | 0, _, i, h => absurd h (Nat.not_lt_zero _)
  | n + 1, h, i, hi => by
    rw [fb_sm_succ] at h
    by_cases e : i = n
    · rw [e]; omega
    · exact sm_z (n := n) (by omega) i (by omega)
theorem FT_dec : ∀ (k d : Nat) {r F : Nat → Nat}, (∀ i, d ≤ i → i < d + k → 0 < m i) → FT m g k d r F → ∃ x0, x0 < pq m k d ∧ F = dec m k d r x0 ∧ 0 < g F ∧ ∀ x, x < x0 → g (dec m k d r x) = 0
  | 0, d, r, F, _, h => ⟨0, Nat.one_pos, h.1, by rw [h.1]; exact h.2, fun x hx => absurd hx (Nat.not_lt_zero _)⟩
  | k + 1, d, r, F, hm, h => by
    obtain ⟨v, v1, v2, v3⟩ := h
    have hm' : ∀ i, d + 1 ≤ i → i < d + 1 + k → 0 < m i := fun i h1 h2 => hm i (by omega) (by omega)
    obtain ⟨y, y1, y2, y3, y4⟩ := FT_dec k (d + 1) hm' v3
    obtain ⟨Q, hQ⟩ : ∃ Q, Q = pq m k (d + 1) := ⟨_, rfl⟩
    have hQ0 : 0 < Q := by rw [hQ]; exact pq_pos k (d + 1) hm'
    rw [← hQ] at y1
    have e1 : (v * Q + y) / Q = v := by rw [Nat.mul_comm, Nat.mul_add_div hQ0, Nat.div_eq_of_lt y1, Nat.add_zero]
    have e2 : (v * Q + y) % Q = y := by rw [Nat.mul_comm, Nat.mul_add_mod, Nat.mod_eq_of_lt y1]
    refine ⟨v * Q + y, ?_, ?_, y3, fun x hx => ?_⟩
    · show v * Q + y < m d * pq m k (d + 1)
      rw [← hQ]
      have : (v + 1) * Q ≤ m d * Q := Nat.mul_le_mul_right _ v1
      rw [Nat.succ_mul] at this
      omega
    · show F = dec m k (d + 1) (fset r d ((v * Q + y) / pq m k (d + 1))) ((v * Q + y) % pq m k (d + 1))
      rw [← hQ, e1, e2]
      exact y2
    · show g (dec m k (d + 1) (fset r d (x / pq m k (d + 1))) (x % pq m k (d + 1))) = 0
      rw [← hQ]
      have hx2 : x % Q < Q := Nat.mod_lt _ hQ0
      have hxd := Nat.div_add_mod x Q
      by_cases c : x / Q < v
      · have z := v2 (x / Q) c
        rw [NW_pq k (d + 1) hm', ← hQ] at z
        exact sm_z z _ hx2
      · have e : x / Q = v := by
          have : x / Q ≤ v := by
            have h1 : x / Q ≤ (v * Q + y) / Q := Nat.div_le_div_right (by omega)
            rwa [e1] at h1
          omega
        rw [e]
        refine y4 _ ?_
        rw [e, Nat.mul_comm] at hxd
        omega
theorem pq_last : ∀ (k d : Nat), pq m (k + 1) d = pq m k d * m (d + k)
  | 0, d => by show m d * 1 = 1 * m d; omega
  | k + 1, d => by
    show m d * pq m (k + 1) (d + 1) = m d * pq m k (d + 1) * m (d + (k + 1))
    rw [pq_last k (d + 1), show d + 1 + k = d + (k + 1) by omega, Nat.mul_assoc]
theorem dec_last : ∀ (k d : Nat) {r : Nat → Nat} {x : Nat}, (∀ i, d ≤ i → i < d + (k + 1) → 0 < m i) → x < pq m (k + 1) d → dec m (k + 1) d r x = fset (dec m k d r (x / m (d + k))) (d + k) (x % m (d + k))
  | 0, d, r, x, hm, hx => by
    have hx' : x < m d * 1 := hx
    show fset r d (x / 1) = fset r d (x % m d)
    rw [Nat.div_one, Nat.mod_eq_of_lt (by omega)]
  | k + 1, d, r, x, hm, hx => by
    have hm' : ∀ i, d + 1 ≤ i → i < d + 1 + (k + 1) → 0 < m i := fun i h1 h2 => hm i (by omega) (by omega)
    have hQ0 : 0 < pq m (k + 1) (d + 1) := pq_pos (k + 1) (d + 1) hm'
    have hl := pq_last (m := m) k (d + 1)
    have hd1 : d + 1 + k = d + (k + 1) := by omega
    show dec m (k + 1) (d + 1) (fset r d (x / pq m (k + 1) (d + 1))) (x % pq m (k + 1) (d + 1)) = fset (dec m k (d + 1) (fset r d (x / m (d + (k + 1)) / pq m k (d + 1))) (x / m (d + (k + 1)) % pq m k (d + 1))) (d + (k + 1)) (x % m (d + (k + 1)))
    rw [dec_last k (d + 1) hm' (Nat.mod_lt _ hQ0), hl, hd1]
    rw [Nat.mod_mod_of_dvd _ (Nat.dvd_mul_left _ _), Nat.mod_mul_left_div_self, Nat.div_div_eq_div_mul, Nat.mul_comm (m (d + (k + 1)))]
theorem de_dec : ∀ (n : Nat) {r : Nat → Nat} {x : Nat}, (∀ i, i < n → 0 < m i) → x < pr m n → dec m n 0 r x = de m n r x
  | 0, _, _, _, _ => rfl
  | n + 1, r, x, hm, hx => by
    have hx' : x < pr m n * m n := hx
    rw [dec_last n 0 (fun i _ h => hm i (by omega)) (by rw [pq_all]; exact hx), Nat.zero_add, de_dec n (fun i hi => hm i (by omega)) (by rw [Nat.div_lt_iff_lt_mul (hm n (by omega))]; exact hx')]
    rfl
end CHV
