section CHB
variable {m r : Nat → Nat} {L n mode : Nat}
def hit (m r : Nat → Nat) (x : Nat) : Nat → Bool
  | 0 => false
  | d + 1 => hit m r x d || decide (x % m d = r d)
def lok (m r : Nat → Nat) (L d : Nat) : Bool := decide (fb_ct (fun x => hit m r x d && decide (x % m d = r d)) L = 0)
def djb (m r : Nat → Nat) (L : Nat) : Nat → Bool
  | 0 => true
  | d + 1 => djb m r L d && lok m r L d
def cov (m r : Nat → Nat) (L d : Nat) : Bool := decide (fb_ct (fun x => hit m r x d) L = L)
def good (mode : Nat) (m r : Nat → Nat) (L n : Nat) : Bool := (decide (mode = 0) || djb m r L n) && (decide (mode = 2) || cov m r L n)
theorem hit_ex {x : Nat} : ∀ {d : Nat}, hit m r x d = true ↔ ∃ i, i < d ∧ x % m i = r i
  | 0 => ⟨fun h => absurd (show false = true from h) (by decide), fun ⟨i, hi, _⟩ => absurd hi (Nat.not_lt_zero _)⟩
  | d + 1 => by
    show (hit m r x d || decide (x % m d = r d)) = true ↔ _
    rw [Bool.or_eq_true, decide_eq_true_eq, hit_ex (d := d)]
    constructor
    · rintro (⟨i, hi, e⟩ | e)
      · exact ⟨i, by omega, e⟩
      · exact ⟨d, by omega, e⟩
    · rintro ⟨i, hi, e⟩
      by_cases z : i = d
      · right; rw [z] at e; exact e
      · left; exact ⟨i, by omega, e⟩
theorem hit_cong {r' : Nat → Nat} {x : Nat} : ∀ {d : Nat}, (∀ i, i < d → r' i = r i) → hit m r' x d = hit m r x d
  | 0, _ => rfl
  | d + 1, h => by
    show (hit m r' x d || decide (x % m d = r' d)) = (hit m r x d || decide (x % m d = r d))
    rw [hit_cong (fun i hi => h i (by omega)), h d (by omega)]
theorem lok_cong {r' : Nat → Nat} {d : Nat} (h : ∀ i, i < d + 1 → r' i = r i) : lok m r' L d = lok m r L d := by
  unfold lok
  rw [fb_ct_cong (q := fun x => hit m r x d && decide (x % m d = r d)) (fun x _ => by rw [hit_cong (fun i hi => h i (by omega)), h d (by omega)])]
theorem djb_cong {r' : Nat → Nat} : ∀ {d : Nat}, (∀ i, i < d → r' i = r i) → djb m r' L d = djb m r L d
  | 0, _ => rfl
  | d + 1, h => by
    show (djb m r' L d && lok m r' L d) = (djb m r L d && lok m r L d)
    rw [djb_cong (fun i hi => h i (by omega)), lok_cong h]
theorem lok_iff {d : Nat} : lok m r L d = true ↔ ∀ i, i < d → ∀ x, x < L → ¬ (x % m i = r i ∧ x % m d = r d) := by
  unfold lok
  rw [decide_eq_true_eq, fb_ct_zero]
  constructor
  · intro h i hi x hx e
    have := h x hx
    rw [hit_ex.mpr ⟨i, hi, e.1⟩, decide_eq_true e.2] at this
    exact absurd this (by decide)
  · intro h x hx
    by_cases z : hit m r x d = true
    · obtain ⟨i, hi, e⟩ := hit_ex.mp z
      rw [decide_eq_false (fun e2 => h i hi x hx ⟨e, e2⟩), Bool.and_false]
    · rw [Bool.eq_false_iff.mpr z, Bool.false_and]
theorem djb_iff : ∀ {d : Nat}, djb m r L d = true ↔ ∀ j, j < d → ∀ i, i < j → ∀ x, x < L → ¬ (x % m i = r i ∧ x % m j = r j)
  | 0 => ⟨fun _ j hj => absurd hj (Nat.not_lt_zero _), fun _ => rfl⟩
  | d + 1 => by
    show (djb m r L d && lok m r L d) = true ↔ _
    rw [Bool.and_eq_true, djb_iff (d := d), lok_iff]
    constructor
    · rintro ⟨h1, h2⟩ j hj i hi
      by_cases z : j = d
      · subst z; exact h2 i hi
      · exact h1 j (by omega) i hi
    · intro h
      exact ⟨fun j hj => h j (by omega), fun i hi => h d (by omega) i hi⟩
/-! nested counts -/
def NW (m : Nat → Nat) (g : (Nat → Nat) → Nat) : Nat → Nat → (Nat → Nat) → Nat
  | 0, _, r => g r
  | k + 1, d, r => fb_sm (fun v => NW m g k (d + 1) (fset r d v)) (m d)
def CW (mode : Nat) (m : Nat → Nat) (L : Nat) : Nat → Nat → (Nat → Nat) → Nat
  | 0, d, r => if mode = 2 then 1 else if cov m r L d = true then 1 else 0
  | k + 1, d, r => fb_sm (fun v => if mode = 0 ∨ lok m (fset r d v) L d = true then CW mode m L k (d + 1) (fset r d v) else 0) (m d)
def gd (mode : Nat) (m : Nat → Nat) (L n : Nat) (r : Nat → Nat) : Nat := if good mode m r L n = true then 1 else 0
theorem NW_zero {g : (Nat → Nat) → Nat} : ∀ (k d : Nat) {r : Nat → Nat}, (∀ r', (∀ i, i < d → r' i = r i) → g r' = 0) → NW m g k d r = 0
  | 0, d, r, h => h r (fun _ _ => rfl)
  | k + 1, d, r, h => by
    show fb_sm (fun v => NW m g k (d + 1) (fset r d v)) (m d) = 0
    rw [fb_sm_cong (g := fun _ => 0) (fun v _ => NW_zero k (d + 1) (fun r' h' => h r' (fun i hi => by rw [h' i (by omega), fset_2 _ _ (by omega)])))]
    rw [fb_sm_const, Nat.mul_zero]
theorem djb_le : ∀ {d e : Nat}, d ≤ e → djb m r L e = true → djb m r L d = true := fun h1 h2 => djb_iff.mpr (fun j hj => djb_iff.mp h2 j (by omega))
theorem CW_NW : ∀ (k d : Nat) {r : Nat → Nat}, (mode = 0 ∨ djb m r L d = true) → CW mode m L k d r = NW m (gd mode m L (d + k)) k d r
  | 0, d, r, h => by
    show (if mode = 2 then 1 else if cov m r L d = true then 1 else 0) = gd mode m L (d + 0) r
    have e1 : (decide (mode = 0) || djb m r L d) = true := by
      rcases h with h | h
      · rw [decide_eq_true h, Bool.true_or]
      · rw [h, Bool.or_true]
    unfold gd good
    rw [Nat.add_zero, e1, Bool.true_and]
    by_cases z : mode = 2
    · rw [if_pos z, decide_eq_true z, Bool.true_or, if_pos rfl]
    · rw [if_neg z, decide_eq_false z, Bool.false_or]
  | k + 1, d, r, h => by
    show fb_sm (fun v => if mode = 0 ∨ lok m (fset r d v) L d = true then CW mode m L k (d + 1) (fset r d v) else 0) (m d) = fb_sm (fun v => NW m (gd mode m L (d + (k + 1))) k (d + 1) (fset r d v)) (m d)
    refine fb_sm_cong (fun v _ => ?_)
    by_cases z : mode = 0 ∨ lok m (fset r d v) L d = true
    · rw [if_pos z, CW_NW k (d + 1) (by
        rcases h with h | h
        · exact Or.inl h
        · rcases z with z | z
          · exact Or.inl z
          · right
            show (djb m (fset r d v) L d && lok m (fset r d v) L d) = true
            rw [z, djb_cong (r := r) (fun i hi => fset_2 _ _ (by omega)), h]; rfl), show d + 1 + k = d + (k + 1) by omega]
    · rw [if_neg z]
      symm
      refine NW_zero k (d + 1) (fun r' h' => ?_)
      unfold gd good
      have z0 : ¬ mode = 0 := fun e => z (Or.inl e)
      have zl : ¬ djb m r' L (d + (k + 1)) = true := fun e => by
        have e2 := djb_le (d := d + 1) (by omega) e
        have e3 : (djb m r' L d && lok m r' L d) = true := e2
        rw [Bool.and_eq_true] at e3
        exact z (Or.inr ((lok_cong h').symm.trans e3.2))
      rw [decide_eq_false z0, Bool.false_or, Bool.eq_false_iff.mpr zl, Bool.false_and, if_neg (by decide)]
end CHB
