/-! choices: pure facts -/
theorem crt_no {a b r s x : Nat} (h1 : x % a = r) (h2 : x % b = s) : r % Nat.gcd a b = s % Nat.gcd a b := by
  rw [← h1, ← h2, Nat.mod_mod_of_dvd _ (Nat.gcd_dvd_left a b), Nat.mod_mod_of_dvd _ (Nat.gcd_dvd_right a b)]
theorem crt_ex {a b r s : Nat} (ha : 0 < a) (hb : 0 < b) (hr : r < a) (hs : s < b) (h : r % Nat.gcd a b = s % Nat.gcd a b) : ∃ x, x < Nat.lcm a b ∧ x % a = r ∧ x % b = s := by
  obtain ⟨g, hg⟩ : ∃ g, g = Nat.gcd a b := ⟨_, rfl⟩
  have hg0 : 0 < Nat.gcd a b := Nat.gcd_pos_of_pos_left _ ha
  have hcop := Nat.coprime_div_gcd_div_gcd hg0
  obtain ⟨a', ea⟩ : ∃ a', a' = a / Nat.gcd a b := ⟨_, rfl⟩
  obtain ⟨k, ek⟩ : ∃ k, k = b / Nat.gcd a b := ⟨_, rfl⟩
  have haa : g * a' = a := by rw [hg, ea]; exact Nat.mul_div_cancel' (Nat.gcd_dvd_left a b)
  have hbb : g * k = b := by rw [hg, ek]; exact Nat.mul_div_cancel' (Nat.gcd_dvd_right a b)
  rw [← ea, ← ek] at hcop
  rw [← hg] at h hg0
  have hk0 : 0 < k := Nat.pos_of_ne_zero (fun z => by rw [z, Nat.mul_zero] at hbb; omega)
  have hlcm : a * k = Nat.lcm a b := by rw [ek]; exact lcm_div ha
  have hrem : ∀ i, (r + i * a) % b % g = s % g := fun i => by
    rw [Nat.mod_mod_of_dvd _ (show g ∣ b from ⟨k, hbb.symm⟩), ← haa, show r + i * (g * a') = r + g * (i * a') by grind, Nat.add_mul_mod_self_left, h]
  have hf : ∀ i, i < k → (r + i * a) % b / g < k := fun i _ => by
    rw [Nat.div_lt_iff_lt_mul hg0, Nat.mul_comm k g, hbb]
    exact Nat.mod_lt _ hb
  have hinj : ∀ i j, i < j → j < k → (r + i * a) % b / g ≠ (r + j * a) % b / g := fun i j hij hj e => by
    have e1 : (r + i * a) % b = (r + j * a) % b := by
      rw [← Nat.div_add_mod ((r + i * a) % b) g, ← Nat.div_add_mod ((r + j * a) % b) g, hrem, hrem, e]
    have e2 := Nat.sub_mod_eq_zero_of_mod_eq e1.symm
    have e3 : r + j * a - (r + i * a) = (j - i) * a := by rw [Nat.sub_mul]; omega
    rw [e3, ← haa, ← hbb] at e2
    have e4 : g * k ∣ g * ((j - i) * a') := by
      have := Nat.dvd_of_mod_eq_zero e2
      rwa [show (j - i) * (g * a') = g * ((j - i) * a') by grind] at this
    have e5 := Nat.dvd_of_mul_dvd_mul_left hg0 e4
    have e6 := Nat.Coprime.dvd_of_dvd_mul_right hcop.symm e5
    have := Nat.le_of_dvd (by omega) e6
    omega
  obtain ⟨i, hi, e⟩ := fb_onto hf hinj (y := s / g) (by rw [Nat.div_lt_iff_lt_mul hg0, Nat.mul_comm k g, hbb]; exact hs)
  refine ⟨r + i * a, ?_, ?_, ?_⟩
  · rw [← hlcm]
    have : (i + 1) * a ≤ k * a := Nat.mul_le_mul_right a hi
    rw [Nat.succ_mul, Nat.mul_comm k a] at this
    omega
  · rw [Nat.add_mul_mod_self_right]; exact Nat.mod_eq_of_lt hr
  · rw [← Nat.div_add_mod ((r + i * a) % b) g, hrem, e, Nat.div_add_mod]
theorem crt_int {r s g : Nat} : ((r : Int) - s) % (g : Int) = 0 ↔ r % g = s % g := by
  rw [← Int.emod_eq_emod_iff_emod_sub_eq_zero]
  constructor
  · intro h; exact_mod_cast h
  · intro h; exact_mod_cast h
/-! sums and counts around a circle -/
theorem sm_shift1 (f : Nat → Nat) : ∀ n, fb_sm (fun v => f (v + 1)) n + f 0 = fb_sm f n + f n
  | 0 => rfl
  | n + 1 => by
    rw [fb_sm_succ, fb_sm_succ]
    have := sm_shift1 f n
    omega
theorem sm_rot1 (f : Nat → Nat) (n : Nat) : fb_sm (fun v => f ((v + 1) % n)) n = fb_sm f n := by
  cases n with
  | zero => rfl
  | succ n =>
    rw [fb_sm_succ, show (n + 1) % (n + 1) = 0 from Nat.mod_self _, fb_sm_cong (g := fun v => f (v + 1)) (fun v hv => by rw [Nat.mod_eq_of_lt (by omega)]), sm_shift1, fb_sm_succ]
theorem sm_rot (f : Nat → Nat) (n : Nat) : ∀ j, fb_sm (fun v => f ((v + j) % n)) n = fb_sm f n
  | 0 => fb_sm_cong (fun v hv => by rw [Nat.add_zero, Nat.mod_eq_of_lt hv])
  | j + 1 => by
    rw [← sm_rot f n j, ← sm_rot1 (fun v => f ((v + j) % n)) n]
    refine fb_sm_cong (fun v hv => ?_)
    show f ((v + (j + 1)) % n) = f (((v + 1) % n + j) % n)
    rw [Nat.mod_add_mod, show v + (j + 1) = v + 1 + j by omega]
theorem ct_sm (p : Nat → Bool) : ∀ n, fb_ct p n = fb_sm (fun x => if p x then 1 else 0) n
  | 0 => rfl
  | n + 1 => by rw [fb_ct_succ, fb_sm_succ, ct_sm p n]
theorem ct_rot (p : Nat → Bool) (n j : Nat) : fb_ct (fun x => p ((x + j) % n)) n = fb_ct p n := by
  rw [ct_sm, ct_sm]
  exact sm_rot (fun x => if p x then 1 else 0) n j
