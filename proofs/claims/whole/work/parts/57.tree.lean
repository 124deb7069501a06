/-! the chain of spans -/
def mi (S : Nat) : Nat → Nat
  | 0 => 1
  | i + 1 => mi S i * lpf (S / mi S i)
theorem mi_s (S i : Nat) : mi S (i + 1) = mi S i * lpf (S / mi S i) := rfl
theorem mi_n {S : Nat} (hS : 1 ≤ S) : ∀ i, 1 ≤ mi S i ∧ mi S i * (S / mi S i) = S ∧ mi S i ≤ S ∧ (mi S i = S ∨ 2 ^ i ≤ mi S i)
  | 0 => ⟨Nat.le_refl _, by show 1 * (S / 1) = S; rw [Nat.div_one, Nat.one_mul], hS, Or.inr (Nat.le_refl _)⟩
  | i + 1 => by
    obtain ⟨h1, h2, h3, h4⟩ := mi_n hS i
    rw [mi_s]
    generalize mi S i = m at h1 h2 h3 h4
    generalize S / m = n at h2
    rcases (show n = 0 ∨ n = 1 ∨ 2 ≤ n by omega) with e | e | e
    · rw [e, Nat.mul_zero] at h2; omega
    · have hl : lpf n = 1 := by unfold lpf; rw [if_pos (by omega)]
      rw [e, Nat.mul_one] at h2
      rw [hl, Nat.mul_one, h2, Nat.div_self hS, Nat.mul_one]
      exact ⟨hS, rfl, Nat.le_refl _, Or.inl rfl⟩
    · obtain ⟨l1, l2, l3, l4⟩ := lpf_n e
      have hd := Nat.div_add_mod n (lpf n)
      rw [l3, Nat.add_zero] at hd
      have hpos : 1 ≤ m * lpf n := Nat.mul_pos h1 (by omega)
      have e2 : m * lpf n * (n / lpf n) = S := by rw [Nat.mul_assoc, hd, h2]
      have e3 : S / (m * lpf n) = n / lpf n := by
        rw [← e2]
        exact Nat.mul_div_cancel_left _ hpos
      refine ⟨hpos, by rw [e3]; exact e2, ?_, ?_⟩
      · rw [← h2]; exact Nat.mul_le_mul_left _ l2
      · rcases h4 with h4 | h4
        · have : n = 1 := by
            rw [h4] at h2
            have : S * n = S * 1 := by omega
            exact Nat.eq_of_mul_eq_mul_left hS this
          omega
        · right
          rw [Nat.pow_succ]
          exact Nat.mul_le_mul h4 l1
theorem mi_13 {S : Nat} (hS : 1 ≤ S) (h : S ≤ 5040) : mi S 13 = S := by
  obtain ⟨h1, h2, h3, h4⟩ := mi_n hS 13
  rcases h4 with h4 | h4
  · exact h4
  · have : (2 : Nat) ^ 13 = 8192 := rfl
    omega
/-! sums over a tree -/
def Dn (w : Nat → Nat) (kd : Nat → Nat → Nat) (S : Nat) : Nat → Nat → Nat → Nat
  | 0, i, a => w (kd i a)
  | d + 1, i, a => w (kd i a) + if kd i a = 2 then fb_sm (fun t => Dn w kd S d (i + 1) (a + t * mi S i)) (lpf (S / mi S i)) else 0
theorem Dn_s (w : Nat → Nat) (kd : Nat → Nat → Nat) (S d i a : Nat) : Dn w kd S (d + 1) i a = w (kd i a) + if kd i a = 2 then fb_sm (fun t => Dn w kd S d (i + 1) (a + t * mi S i)) (lpf (S / mi S i)) else 0 := rfl
def Mn (kd : Nat → Nat → Nat) (S : Nat) : Nat → Nat → Nat → Nat
  | 0, i, _ => mi S i
  | d + 1, i, a => if kd i a = 2 then max (mi S i) (mx (fun t => Mn kd S d (i + 1) (a + t * mi S i)) (lpf (S / mi S i))) else mi S i
theorem Mn_s (kd : Nat → Nat → Nat) (S d i a : Nat) : Mn kd S (d + 1) i a = if kd i a = 2 then max (mi S i) (mx (fun t => Mn kd S d (i + 1) (a + t * mi S i)) (lpf (S / mi S i))) else mi S i := rfl
theorem sm_re (f : Nat → Nat) (m : Nat) : ∀ p, fb_sm f (m * p) = fb_sm (fun a => fb_sm (fun t => f (a + t * m)) p) m
  | 0 => by
    rw [Nat.mul_zero]
    show 0 = _
    have := fb_sm_const 0 m
    rw [Nat.mul_zero] at this
    exact this.symm
  | p + 1 => by
    rw [Nat.mul_add, Nat.mul_one, fb_sm_split, sm_re f m p, ← fb_sm_add]
    refine fb_sm_cong (fun a _ => ?_)
    show fb_sm (fun t => f (a + t * m)) p + f (m * p + a) = fb_sm (fun t => f (a + t * m)) (p + 1)
    rw [fb_sm_succ, Nat.mul_comm m p, Nat.add_comm (p * m) a]
theorem mx_cong {f g : Nat → Nat} : ∀ {n : Nat}, (∀ k, k < n → f k = g k) → mx f n = mx g n
  | 0, _ => rfl
  | n + 1, h => by rw [mx_s, mx_s, h n (by omega), mx_cong (n := n) (fun k hk => h k (by omega))]
theorem mx_split (f : Nat → Nat) (m : Nat) : ∀ n, mx f (m + n) = max (mx f m) (mx (fun k => f (m + k)) n)
  | 0 => by show mx f m = max (mx f m) 0; omega
  | n + 1 => by rw [← Nat.add_assoc, mx_s, mx_split f m n, mx_s]; omega
theorem mx_max (f g : Nat → Nat) : ∀ n, mx (fun k => max (f k) (g k)) n = max (mx f n) (mx g n)
  | 0 => rfl
  | n + 1 => by rw [mx_s, mx_s, mx_s, mx_max f g n]; omega
theorem mx_z : ∀ n, mx (fun _ => 0) n = 0
  | 0 => rfl
  | n + 1 => by rw [mx_s, mx_z n]; rfl
theorem mx_re (f : Nat → Nat) (m : Nat) : ∀ p, mx f (m * p) = mx (fun a => mx (fun t => f (a + t * m)) p) m
  | 0 => by rw [Nat.mul_zero]; exact (mx_z m).symm
  | p + 1 => by
    rw [Nat.mul_add, Nat.mul_one, mx_split, mx_re f m p, ← mx_max]
    refine mx_cong (fun a _ => ?_)
    show max (mx (fun t => f (a + t * m)) p) (f (m * p + a)) = mx (fun t => f (a + t * m)) (p + 1)
    rw [mx_s, Nat.mul_comm m p, Nat.add_comm (p * m) a]
/-- what is left of a sum, a level's nodes being P -/
def Rw (w : Nat → Nat) (kd : Nat → Nat → Nat) (S d i : Nat) (P : Nat → Bool) : Nat := fb_sm (fun a => if P a = true then Dn w kd S d i a else 0) (mi S i)
def Pn (kd : Nat → Nat → Nat) (S i : Nat) (P : Nat → Bool) : Nat → Bool := fun a => P (a % mi S i) && decide (kd i (a % mi S i) = 2)
theorem Pn_at {kd : Nat → Nat → Nat} {S i : Nat} {P : Nat → Bool} (hS : 1 ≤ S) {a t : Nat} (ha : a < mi S i) : Pn kd S i P (a + t * mi S i) = (P a && decide (kd i a = 2)) := by
  unfold Pn
  rw [Nat.add_mul_mod_self_right, Nat.mod_eq_of_lt ha]
theorem Rw_s {w : Nat → Nat} {kd : Nat → Nat → Nat} {S d i : Nat} {P : Nat → Bool} (hS : 1 ≤ S) : Rw w kd S (d + 1) i P = fb_sm (fun a => if P a = true then w (kd i a) else 0) (mi S i) + Rw w kd S d (i + 1) (Pn kd S i P) := by
  unfold Rw
  rw [mi_s, sm_re, ← fb_sm_add]
  refine fb_sm_cong (fun a ha => ?_)
  show (if P a = true then Dn w kd S (d + 1) i a else 0) = (if P a = true then w (kd i a) else 0) + fb_sm (fun t => if Pn kd S i P (a + t * mi S i) = true then Dn w kd S d (i + 1) (a + t * mi S i) else 0) (lpf (S / mi S i))
  have e : fb_sm (fun t => if Pn kd S i P (a + t * mi S i) = true then Dn w kd S d (i + 1) (a + t * mi S i) else 0) (lpf (S / mi S i)) = if (P a && decide (kd i a = 2)) = true then fb_sm (fun t => Dn w kd S d (i + 1) (a + t * mi S i)) (lpf (S / mi S i)) else 0 := by
    by_cases z : (P a && decide (kd i a = 2)) = true
    · rw [if_pos z]
      exact fb_sm_cong (fun t _ => by rw [Pn_at hS ha, if_pos z])
    · rw [if_neg z, fb_sm_cong (g := fun _ => 0) (fun t _ => by rw [Pn_at hS ha, if_neg z])]
      have := fb_sm_const 0 (lpf (S / mi S i))
      rwa [Nat.mul_zero] at this
  rw [e, Dn_s]
  by_cases hp : P a = true
  · rw [if_pos hp, if_pos hp, hp, Bool.true_and]
    by_cases hk : kd i a = 2
    · rw [if_pos hk, if_pos (decide_eq_true hk)]
    · rw [if_neg hk, if_neg (by simpa using hk)]
  · rw [if_neg hp, if_neg hp, if_neg (by simp [hp])]
def RM (kd : Nat → Nat → Nat) (S d i : Nat) (P : Nat → Bool) : Nat := mx (fun a => if P a = true then Mn kd S d i a else 0) (mi S i)
theorem RM_s {kd : Nat → Nat → Nat} {S d i : Nat} {P : Nat → Bool} (hS : 1 ≤ S) (hP : ∃ a, a < mi S i ∧ P a = true) : RM kd S (d + 1) i P = max (mi S i) (RM kd S d (i + 1) (Pn kd S i P)) := by
  unfold RM
  rw [mi_s, mx_re]
  have e : mx (fun a => if P a = true then Mn kd S (d + 1) i a else 0) (mi S i) = mx (fun a => max (if P a = true then mi S i else 0) (mx (fun t => if Pn kd S i P (a + t * mi S i) = true then Mn kd S d (i + 1) (a + t * mi S i) else 0) (lpf (S / mi S i)))) (mi S i) := by
    refine mx_cong (fun a ha => ?_)
    show (if P a = true then Mn kd S (d + 1) i a else 0) = max (if P a = true then mi S i else 0) (mx (fun t => if Pn kd S i P (a + t * mi S i) = true then Mn kd S d (i + 1) (a + t * mi S i) else 0) (lpf (S / mi S i)))
    have e : mx (fun t => if Pn kd S i P (a + t * mi S i) = true then Mn kd S d (i + 1) (a + t * mi S i) else 0) (lpf (S / mi S i)) = if (P a && decide (kd i a = 2)) = true then mx (fun t => Mn kd S d (i + 1) (a + t * mi S i)) (lpf (S / mi S i)) else 0 := by
      by_cases z : (P a && decide (kd i a = 2)) = true
      · rw [if_pos z]
        exact mx_cong (fun t _ => by rw [Pn_at hS ha, if_pos z])
      · rw [if_neg z, mx_cong (g := fun _ => 0) (fun t _ => by rw [Pn_at hS ha, if_neg z])]
        exact mx_z _
    rw [e, Mn_s]
    by_cases hp : P a = true
    · rw [if_pos hp, if_pos hp, hp, Bool.true_and]
      by_cases hk : kd i a = 2
      · rw [if_pos hk, if_pos (decide_eq_true hk)]
      · rw [if_neg hk, if_neg (by simpa using hk), Nat.max_zero]
    · rw [if_neg hp, if_neg hp, if_neg (by simp [hp])]; rfl
  rw [e, mx_max]
  congr 1
  obtain ⟨a, ha, hp⟩ := hP
  apply Nat.le_antisymm
  · have : ∀ n, mx (fun a => if P a = true then mi S i else 0) n ≤ mi S i := fun n => mx_b (fun k => by split <;> omega) n
    exact this _
  · have := mx_ge (f := fun a => if P a = true then mi S i else 0) ha
    rwa [if_pos hp] at this
theorem RM_0 {kd : Nat → Nat → Nat} {S d i : Nat} {P : Nat → Bool} (h : ∀ a, a < mi S i → P a = false) : RM kd S d i P = 0 := by
  unfold RM
  rw [mx_cong (g := fun _ => 0) (fun a ha => by rw [h a ha]; rfl)]
  exact mx_z _
theorem Rw_0 {w : Nat → Nat} {kd : Nat → Nat → Nat} {S d i : Nat} {P : Nat → Bool} (h : ∀ a, a < mi S i → P a = false) : Rw w kd S d i P = 0 := by
  unfold Rw
  rw [fb_sm_cong (g := fun _ => 0) (fun a ha => by rw [h a ha]; rfl)]
  have := fb_sm_const 0 (mi S i)
  rwa [Nat.mul_zero] at this
section VIS
variable {c od on : Nat} {rs md nm : Nat → Nat}
theorem tch_up {x m t m2 k : Nat} (hd : m2 % m = 0) (h : tch rs md (x + t * m) m2 k = true) : tch rs md x m k = true := by
  unfold tch at h ⊢
  have h1 := of_decide_eq_true h
  apply decide_eq_true
  apply Int.emod_eq_zero_of_dvd
  have hg : ((Nat.gcd m (md k) : Nat) : Int) ∣ ((Nat.gcd m2 (md k) : Nat) : Int) := Int.natCast_dvd_natCast.mpr (Nat.dvd_gcd (Nat.dvd_trans (Nat.gcd_dvd_left _ _) (Nat.dvd_of_mod_eq_zero hd)) (Nat.gcd_dvd_right _ _))
  have h2 := Int.dvd_trans hg (Int.dvd_of_emod_eq_zero h1)
  have h3 : ((Nat.gcd m (md k) : Nat) : Int) ∣ ((t * m : Nat) : Int) := Int.natCast_dvd_natCast.mpr (Nat.dvd_trans (Nat.gcd_dvd_left _ _) (Nat.dvd_mul_left _ _))
  have e : (x : Int) - rs k = (((x + t * m : Nat) : Int) - rs k) - ((t * m : Nat) : Int) := by
    rw [Int.natCast_add]; omega
  rw [e]
  exact Int.dvd_sub h2 h3
/-- at the span itself no node is mixed -/
theorem spn_dvd {s : Nat} : ∀ {c k : Nat}, ¬ spn md s c = 0 → k < c → s.testBit k = true → spn md s c % md k = 0
  | 0, _, _, h, _ => by omega
  | c + 1, k, h0, hk, hb => by
    rw [spn_succ] at h0 ⊢
    by_cases z : spn md s c = 0
    · rw [if_pos z] at h0; exact absurd rfl h0
    · rw [if_neg z] at h0 ⊢
      by_cases e : k = c
      · subst e
        rw [if_pos hb] at h0 ⊢
        by_cases q : Nat.lcm (spn md s k) (md k) ≤ 5040
        · rw [if_pos q]
          exact Nat.mod_eq_zero_of_dvd (Nat.dvd_lcm_right _ _)
        · rw [if_neg q] at h0; exact absurd rfl h0
      · have ih := spn_dvd (c := c) (k := k) z (by omega) hb
        by_cases hb2 : s.testBit c = true
        · rw [if_pos hb2] at h0 ⊢
          by_cases q : Nat.lcm (spn md s c) (md c) ≤ 5040
          · rw [if_pos q]
            exact Nat.mod_eq_zero_of_dvd (Nat.dvd_trans (Nat.dvd_of_mod_eq_zero ih) (Nat.dvd_lcm_left _ _))
          · rw [if_neg q] at h0; exact absurd rfl h0
        · rw [if_neg hb2]; exact ih
theorem kdn_S {x : Nat} (h0 : ¬ spn md on c = 0) : ¬ kdn c on rs md x (spn md on c) = 2 := by
  unfold kdn
  by_cases z : 0 < fb_ct (cdb on rs md x (spn md on c)) c
  · rw [if_pos z]; omega
  · rw [if_neg z]
    by_cases y : 0 < fb_ct (tcb on rs md x (spn md on c)) c
    · obtain ⟨k, k1, k2⟩ := fb_ct_pos.mp y
      exfalso
      apply z
      refine fb_ct_pos.mpr ⟨k, k1, ?_⟩
      unfold cdb
      have k3 := k2
      unfold tcb at k3
      rw [Bool.and_eq_true] at k3
      rw [k2, decide_eq_true (spn_dvd h0 k1 k3.1)]
      rfl
    · rw [if_neg y]; omega
theorem mixed_lt {S i x : Nat} (hS : S = spn md on c) (h0 : ¬ spn md on c = 0) (h : kdn c on rs md x (mi S i) = 2) : 2 ≤ S / mi S i := by
  have hS1 : 1 ≤ S := by omega
  obtain ⟨h1, h2, h3, h4⟩ := mi_n hS1 i
  have hne : ¬ mi S i = S := fun e => by
    rw [e, hS] at h
    exact kdn_S h0 h
  generalize S / mi S i = n at h2
  apply Nat.le_of_not_lt
  intro z
  rcases (show n = 0 ∨ n = 1 by omega) with y | y
  · rw [y, Nat.mul_zero] at h2; omega
  · rw [y, Nat.mul_one] at h2; exact hne h2
end VIS
