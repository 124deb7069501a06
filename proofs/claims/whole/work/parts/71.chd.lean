section CHD
variable {m r : Nat → Nat} {L n mode : Nat}
def lc (m : Nat → Nat) : Nat → Nat
  | 0 => 1
  | d + 1 => Nat.lcm (lc m d) (m d)
def pr (m : Nat → Nat) : Nat → Nat
  | 0 => 1
  | d + 1 => pr m d * m d
theorem lc_dvd : ∀ {d i : Nat}, i < d → m i ∣ lc m d
  | 0, i, h => absurd h (Nat.not_lt_zero _)
  | d + 1, i, h => by
    show m i ∣ Nat.lcm (lc m d) (m d)
    by_cases z : i = d
    · rw [z]; exact Nat.dvd_lcm_right _ _
    · exact Nat.dvd_trans (lc_dvd (show i < d by omega)) (Nat.dvd_lcm_left _ _)
theorem pr_pos : ∀ {d : Nat}, (∀ i, i < d → 0 < m i) → 0 < pr m d
  | 0, _ => Nat.one_pos
  | d + 1, h => Nat.mul_pos (pr_pos (fun i hi => h i (by omega))) (h d (by omega))
theorem pr_le {d : Nat} (h : ∀ i, i < n → 0 < m i) (hd : d ≤ n) : pr m d ≤ pr m n := by
  induction n with
  | zero => rw [show d = 0 by omega]; exact Nat.le_refl _
  | succ n ih =>
    by_cases z : d = n + 1
    · rw [z]; exact Nat.le_refl _
    · exact Nat.le_trans (ih (fun i hi => h i (by omega)) (by omega)) (Nat.le_mul_of_pos_right _ (h n (by omega)))
theorem lc_pos : ∀ {d : Nat}, (∀ i, i < d → 0 < m i) → 0 < lc m d
  | 0, _ => Nat.one_pos
  | d + 1, h => Nat.lcm_pos (lc_pos (fun i hi => h i (by omega))) (h d (by omega))
theorem lc_pr : ∀ {d : Nat}, (∀ i, i < d → 0 < m i) → lc m d ≤ pr m d
  | 0, _ => Nat.le_refl _
  | d + 1, h => by
    show Nat.lcm (lc m d) (m d) ≤ pr m d * m d
    refine Nat.le_trans (Nat.le_of_dvd (Nat.mul_pos (lc_pos (fun i hi => h i (by omega))) (h d (by omega))) (Nat.lcm_dvd (Nat.dvd_mul_right _ _) (Nat.dvd_mul_left _ _))) ?_
    exact Nat.mul_le_mul_right _ (lc_pr (fun i hi => h i (by omega)))
theorem pq_pr : ∀ (k d : Nat), pr m d * pq m k d = pr m (d + k)
  | 0, d => by show pr m d * 1 = pr m d; rw [Nat.mul_one]
  | k + 1, d => by
    show pr m d * (m d * pq m k (d + 1)) = pr m (d + (k + 1))
    rw [← Nat.mul_assoc, show pr m d * m d = pr m (d + 1) from rfl, pq_pr k (d + 1), show d + 1 + k = d + (k + 1) by omega]
theorem pq_all (n : Nat) : pq m n 0 = pr m n := by
  have := pq_pr (m := m) n 0
  rwa [show pr m 0 = 1 from rfl, Nat.one_mul, Nat.zero_add] at this
theorem ct_one {a r : Nat} (h : r < a) : fb_ct (fun k => decide (k = r)) a = 1 := by
  induction a with
  | zero => omega
  | succ a ih =>
    rw [fb_ct_succ]
    by_cases z : r = a
    · subst z
      rw [fb_ct_zero.mpr (fun k hk => decide_eq_false (by omega)), decide_eq_true rfl, if_pos rfl]
    · rw [ih (by omega), decide_eq_false (by omega), if_neg (by decide)]
theorem ct_cls {a r : Nat} (hr : r < a) : ∀ q, fb_ct (fun x => decide (x % a = r)) (q * a) = q
  | 0 => by rw [Nat.zero_mul]; rfl
  | q + 1 => by
    rw [Nat.succ_mul, fb_ct_split, ct_cls hr q, fb_ct_cong (q := fun k => decide (k = r)) (fun k hk => by rw [Nat.add_comm, Nat.add_mul_mod_self_right, Nat.mod_eq_of_lt hk]), ct_one hr]
theorem hit_ct (hd : ∀ i, i < n → m i ∣ L) (hr : ∀ i, i < n → r i < m i) : ∀ d, d ≤ n → djb m r L d = true → fb_ct (fun x => hit m r x d) L = fb_sm (fun i => L / m i) d
  | 0, _, _ => fb_ct_zero.mpr (fun _ _ => rfl)
  | d + 1, h, hj => by
    have hj' : (djb m r L d && lok m r L d) = true := hj
    rw [Bool.and_eq_true] at hj'
    have hl := lok_iff.mp hj'.2
    show fb_ct (fun x => hit m r x d || decide (x % m d = r d)) L = _
    obtain ⟨q, hq⟩ := hd d (by omega)
    have hm0 : 0 < m d := Nat.lt_of_le_of_lt (Nat.zero_le _) (hr d (by omega))
    have e : fb_ct (fun x => decide (x % m d = r d)) L = L / m d := by
      rw [hq, Nat.mul_comm (m d) q, ct_cls (hr d (by omega)), Nat.mul_div_cancel _ hm0]
    rw [fb_ct_or (fun x hx y => by
      obtain ⟨i, hi, z⟩ := hit_ex.mp y.1
      exact hl i hi x hx ⟨z, by simpa using y.2⟩), hit_ct hd hr d (by omega) hj'.1, e, fb_sm_succ]
theorem cov_sum (hd : ∀ i, i < n → m i ∣ L) (hr : ∀ i, i < n → r i < m i) (hj : djb m r L n = true) : cov m r L n = decide (fb_sm (fun i => L / m i) n = L) := by
  unfold cov
  rw [hit_ct hd hr n (Nat.le_refl _) hj]
theorem pair_iff {i j : Nat} (hL : Nat.lcm (m i) (m j) ≤ L) (hr : r i < m i) (hs : r j < m j) : (∃ x, x < L ∧ x % m i = r i ∧ x % m j = r j) ↔ ((r i : Int) - r j) % ((Nat.gcd (m i) (m j) : Nat) : Int) = 0 := by
  rw [crt_int]
  constructor
  · rintro ⟨x, _, h1, h2⟩
    exact crt_no h1 h2
  · intro h
    obtain ⟨x, h1, h2, h3⟩ := crt_ex (by omega) (by omega) hr hs h
    exact ⟨x, by omega, h2, h3⟩
end CHD
