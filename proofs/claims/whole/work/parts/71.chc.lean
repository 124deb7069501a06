section CHC
variable {m r r' : Nat → Nat} {L n mode j : Nat}
theorem mod_sh {x a r j : Nat} (hr : r < a) : (x + j) % a = (r + j) % a ↔ x % a = r := by
  constructor
  · intro h
    have h2 : ((x : Int) + j) % (a : Int) = ((r : Int) + j) % (a : Int) := by exact_mod_cast h
    rw [Int.emod_add_cancel_right] at h2
    have h3 : x % a = r % a := by exact_mod_cast h2
    rw [h3, Nat.mod_eq_of_lt hr]
  · intro h
    rw [← h, Nat.mod_add_mod]
theorem hit_sh (hd : ∀ i, i < n → m i ∣ L) (hr : ∀ i, i < n → r i < m i) (e : ∀ i, i < n → r' i = (r i + j) % m i) (x : Nat) : ∀ d, d ≤ n → hit m r' ((x + j) % L) d = hit m r x d
  | 0, _ => rfl
  | d + 1, h => by
    show (hit m r' ((x + j) % L) d || decide ((x + j) % L % m d = r' d)) = (hit m r x d || decide (x % m d = r d))
    have e1 : ((x + j) % L % m d = r' d) ↔ (x % m d = r d) := by
      rw [Nat.mod_mod_of_dvd _ (hd d (by omega)), e d (by omega)]
      exact mod_sh (hr d (by omega))
    rw [hit_sh hd hr e x d (by omega)]
    congr 1
    exact decide_eq_decide.mpr e1
theorem lok_sh (hd : ∀ i, i < n → m i ∣ L) (hr : ∀ i, i < n → r i < m i) (e : ∀ i, i < n → r' i = (r i + j) % m i) {d : Nat} (h : d < n) : lok m r' L d = lok m r L d := by
  unfold lok
  rw [← ct_rot (fun x => hit m r' x d && decide (x % m d = r' d)) L j, fb_ct_cong (q := fun x => hit m r x d && decide (x % m d = r d)) (fun x _ => by
    have e1 : ((x + j) % L % m d = r' d) ↔ (x % m d = r d) := by
      rw [Nat.mod_mod_of_dvd _ (hd d h), e d h]
      exact mod_sh (hr d h)
    rw [hit_sh hd hr e x d (by omega)]
    congr 1
    exact decide_eq_decide.mpr e1)]
theorem djb_sh (hd : ∀ i, i < n → m i ∣ L) (hr : ∀ i, i < n → r i < m i) (e : ∀ i, i < n → r' i = (r i + j) % m i) : ∀ d, d ≤ n → djb m r' L d = djb m r L d
  | 0, _ => rfl
  | d + 1, h => by
    show (djb m r' L d && lok m r' L d) = (djb m r L d && lok m r L d)
    rw [djb_sh hd hr e d (by omega), lok_sh hd hr e h]
theorem cov_sh (hd : ∀ i, i < n → m i ∣ L) (hr : ∀ i, i < n → r i < m i) (e : ∀ i, i < n → r' i = (r i + j) % m i) : cov m r' L n = cov m r L n := by
  unfold cov
  rw [← ct_rot (fun x => hit m r' x n) L j, fb_ct_cong (q := fun x => hit m r x n) (fun x _ => hit_sh hd hr e x n (Nat.le_refl _))]
theorem gd_sh (hd : ∀ i, i < n → m i ∣ L) (hr : ∀ i, i < n → r i < m i) (e : ∀ i, i < n → r' i = (r i + j) % m i) : gd mode m L n r' = gd mode m L n r := by
  unfold gd good
  rw [djb_sh hd hr e n (Nat.le_refl _), cov_sh hd hr e]
theorem NW_sh {g : (Nat → Nat) → Nat} (hm : ∀ i, i < n → 0 < m i) (hg : ∀ r r', (∀ i, i < n → r i < m i) → (∀ i, i < n → r' i = (r i + j) % m i) → g r' = g r) : ∀ (k d : Nat) {r r' : Nat → Nat}, d + k = n → (∀ i, i < d → r i < m i) → (∀ i, i < d → r' i = (r i + j) % m i) → NW m g k d r' = NW m g k d r
  | 0, d, r, r', h, hr, e => hg r r' (fun i hi => hr i (by omega)) (fun i hi => e i (by omega))
  | k + 1, d, r, r', h, hr, e => by
    show fb_sm (fun v => NW m g k (d + 1) (fset r' d v)) (m d) = fb_sm (fun v => NW m g k (d + 1) (fset r d v)) (m d)
    rw [← sm_rot (fun v => NW m g k (d + 1) (fset r' d v)) (m d) j]
    refine fb_sm_cong (fun v hv => ?_)
    refine NW_sh hm hg k (d + 1) (by omega) (fun i hi => ?_) (fun i hi => ?_)
    · by_cases z : i = d
      · rw [z, fset_1]; exact hv
      · rw [fset_2 _ _ z]; exact hr i (by omega)
    · by_cases z : i = d
      · rw [z, fset_1, fset_1]
      · rw [fset_2 _ _ z, fset_2 _ _ z]; exact e i (by omega)
theorem NW_first {k : Nat} (hm : ∀ i, i < k + 1 → 0 < m i) (hd : ∀ i, i < k + 1 → m i ∣ L) (r : Nat → Nat) {v : Nat} (hv : v < m 0) : NW m (gd mode m L (k + 1)) k 1 (fset r 0 v) = NW m (gd mode m L (k + 1)) k 1 (fset r 0 0) :=
  NW_sh (j := v) hm (fun r r' h1 h2 => gd_sh hd h1 h2) k 1 (by omega) (fun i hi => by rw [show i = 0 by omega, fset_1]; exact hm 0 (by omega)) (fun i hi => by rw [show i = 0 by omega, fset_1, fset_1, Nat.zero_add, Nat.mod_eq_of_lt hv])
theorem NW_all {k : Nat} (hm : ∀ i, i < k + 1 → 0 < m i) (hd : ∀ i, i < k + 1 → m i ∣ L) (r : Nat → Nat) : NW m (gd mode m L (k + 1)) (k + 1) 0 r = m 0 * NW m (gd mode m L (k + 1)) k 1 (fset r 0 0) := by
  show fb_sm (fun v => NW m (gd mode m L (k + 1)) k (0 + 1) (fset r 0 v)) (m 0) = _
  rw [fb_sm_cong (g := fun _ => NW m (gd mode m L (k + 1)) k 1 (fset r 0 0)) (fun v hv => NW_first hm hd r hv), fb_sm_const]
/-! ways by their number -/
def pq (m : Nat → Nat) : Nat → Nat → Nat
  | 0, _ => 1
  | k + 1, d => m d * pq m k (d + 1)
def dec (m : Nat → Nat) : Nat → Nat → (Nat → Nat) → Nat → (Nat → Nat)
  | 0, _, r, _ => r
  | k + 1, d, r, x => dec m k (d + 1) (fset r d (x / pq m k (d + 1))) (x % pq m k (d + 1))
theorem sm_split (f : Nat → Nat) (a : Nat) : ∀ b, fb_sm f (a + b) = fb_sm f a + fb_sm (fun y => f (a + y)) b
  | 0 => rfl
  | b + 1 => by
    rw [← Nat.add_assoc, fb_sm_succ, fb_sm_succ, sm_split f a b, Nat.add_assoc]
theorem sm_mulw (f : Nat → Nat) (b : Nat) : ∀ a, fb_sm f (a * b) = fb_sm (fun v => fb_sm (fun y => f (v * b + y)) b) a
  | 0 => by rw [Nat.zero_mul]; rfl
  | a + 1 => by rw [Nat.succ_mul, sm_split, fb_sm_succ, sm_mulw f b a]
theorem pq_pos : ∀ (k d : Nat), (∀ i, d ≤ i → i < d + k → 0 < m i) → 0 < pq m k d
  | 0, _, _ => Nat.one_pos
  | k + 1, d, h => Nat.mul_pos (h d (by omega) (by omega)) (pq_pos k (d + 1) (fun i h1 h2 => h i (by omega) (by omega)))
theorem NW_pq {g : (Nat → Nat) → Nat} : ∀ (k d : Nat) {r : Nat → Nat}, (∀ i, d ≤ i → i < d + k → 0 < m i) → NW m g k d r = fb_sm (fun x => g (dec m k d r x)) (pq m k d)
  | 0, d, r, _ => by
    show g r = fb_sm (fun x => g r) 1
    rw [fb_sm_const, Nat.one_mul]
  | k + 1, d, r, h => by
    have hp : 0 < pq m k (d + 1) := pq_pos k (d + 1) (fun i h1 h2 => h i (by omega) (by omega))
    show fb_sm (fun v => NW m g k (d + 1) (fset r d v)) (m d) = fb_sm (fun x => g (dec m k (d + 1) (fset r d (x / pq m k (d + 1))) (x % pq m k (d + 1)))) (m d * pq m k (d + 1))
    rw [sm_mulw]
    refine fb_sm_cong (fun v _ => ?_)
    rw [NW_pq k (d + 1) (fun i h1 h2 => h i (by omega) (by omega))]
    refine fb_sm_cong (fun y hy => ?_)
    rw [show (v * pq m k (d + 1) + y) / pq m k (d + 1) = v by rw [Nat.mul_comm, Nat.mul_add_div hp, Nat.div_eq_of_lt hy, Nat.add_zero], show (v * pq m k (d + 1) + y) % pq m k (d + 1) = y by rw [Nat.mul_comm, Nat.mul_add_mod, Nat.mod_eq_of_lt hy]]
end CHC
