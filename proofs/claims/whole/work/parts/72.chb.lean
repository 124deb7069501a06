section CHN
variable {m r : Nat → Nat} {n mode : Nat} {σ : St}
theorem bs0_r {β : Type} {k : Unit → Option β} : bs0 (some (.inr ())) k = k () := rfl
theorem bs0_l {β : Type} {t : β} {k : Unit → Option β} : bs0 (some (.inl t)) k = some t := rfl
def tpr (m r : Nat → Nat) (i j : Nat) : Bool := decide (((r i : Int) - r j) % ((Nat.gcd (m i) (m j) : Nat) : Int) = 0)
theorem tpr_iff (hM : MO m n) (hr : ∀ i, i < n → r i < m i) {i j : Nat} (hi : i < n) (hj : j < n) : tpr m r i j = true ↔ ∃ x, x < lc m n ∧ x % m i = r i ∧ x % m j = r j := by
  unfold tpr
  rw [decide_eq_true_eq]
  refine (pair_iff (Nat.le_of_dvd (hM.lc (Nat.le_refl _)).1 (Nat.lcm_dvd (lc_dvd hi) (lc_dvd hj))) (hr i hi) (hr j hj)).symm
theorem noneL {i : Nat} (hM : MO m n) (h5 : ∀ i, i < n → σ.1 105 i = nI (m i)) (h6 : ∀ i, i < n → σ.1 106 i = nI (r i)) (hr : ∀ i, i < n → r i < m i) (hi : i < n) : iter (fun s : Int32 => Mo_isNoneTwice_L9 (nI n) (nI i) σ s) FUEL 0 = some (if 0 < fb_ct (tpr m r i) i then .inl (.inr 0) else .inr ()) := by
  have hn := hM.1
  have key := iter_ix (body := fun s : Int32 => Mo_isNoneTwice_L9 (nI n) (nI i) σ s) (fun k u => ∃ j, k = i - j ∧ u = nI j ∧ j ≤ i ∧ ∀ t, t < j → tpr m r i t = false) (fun e => e = if 0 < fb_ct (tpr m r i) i then (Sum.inl (Sum.inr (0 : Int32)) : (Int32 ⊕ Int32) ⊕ Unit) else Sum.inr ()) ?_ FUEL i 0 ⟨0, by omega, rfl, by omega, fun t ht => by omega⟩ (fuel (by omega))
  · obtain ⟨e, b1, b2⟩ := key
    rw [b1, b2]
  · rintro k _ ⟨j, rfl, rfl, hj, ht⟩
    by_cases z : j < i
    · obtain ⟨a1, a2⟩ := hM.2.1 i hi
      obtain ⟨c1, c2⟩ := hM.2.1 j (by omega)
      have r1 := hr i hi
      have r2 := hr j (by omega)
      have hg0 : 0 < Nat.gcd (m i) (m j) := Nat.gcd_pos_of_pos_left _ a1
      have hg1 : Nat.gcd (m i) (m j) ≤ m j := Nat.gcd_le_right _ (by omega)
      by_cases y : tpr m r i j = true
      · right
        refine ⟨_, ?_, (if_pos (fb_ct_pos.mpr ⟨j, z, y⟩)).symm⟩
        have y' : ((r i : Int) - r j) % ((Nat.gcd (m i) (m j) : Nat) : Int) = 0 := by unfold tpr at y; simpa using y
        show Mo_isNoneTwice_L9 (nI n) (nI i) σ (nI j) = _
        unfold Mo_isNoneTwice_L9
        rw [if_neg (by rw [le_nI (by omega) (by omega)]; omega), ix_nI (show i < 6 by omega) (by omega), chk_true, ix_nI (show j < 6 by omega) (by omega), chk_true, chk_true, chk_true, tn_nI (show i < 2147483648 by omega), tn_nI (show j < 2147483648 by omega), h5 i hi, h5 j (by omega), common_n (by omega) (by omega), bd_s, nz_nI hg0 (by omega), chk_true, h6 i hi, h6 j (by omega), if_pos (by rw [rem0_d (by omega) (by omega) hg0 (by omega)]; exact y')]
      · left
        have y' : ¬ ((r i : Int) - r j) % ((Nat.gcd (m i) (m j) : Nat) : Int) = 0 := fun e => y (by unfold tpr; exact decide_eq_true e)
        refine ⟨nI (j + 1), i - (j + 1), ?_, ⟨j + 1, rfl, rfl, by omega, fun t h => ?_⟩, by omega⟩
        · show Mo_isNoneTwice_L9 (nI n) (nI i) σ (nI j) = _
          unfold Mo_isNoneTwice_L9
          rw [if_neg (by rw [le_nI (by omega) (by omega)]; omega), ix_nI (show i < 6 by omega) (by omega), chk_true, ix_nI (show j < 6 by omega) (by omega), chk_true, chk_true, chk_true, tn_nI (show i < 2147483648 by omega), tn_nI (show j < 2147483648 by omega), h5 i hi, h5 j (by omega), common_n (by omega) (by omega), bd_s, nz_nI hg0 (by omega), chk_true, h6 i hi, h6 j (by omega), if_neg (by rw [rem0_d (by omega) (by omega) hg0 (by omega)]; exact y'), nI_1, bnd_x]
        · by_cases x : t = j
          · rw [x]; exact Bool.eq_false_iff.mpr y
          · exact ht t (by omega)
    · right
      refine ⟨_, ?_, (if_neg (fun y => by
        obtain ⟨t, h1, h2⟩ := fb_ct_pos.mp y
        rw [ht t (by omega)] at h2
        exact absurd h2 (by decide))).symm⟩
      show Mo_isNoneTwice_L9 (nI n) (nI i) σ (nI j) = _
      unfold Mo_isNoneTwice_L9
      rw [if_pos (by rw [le_nI (by omega) (by omega)]; omega)]
theorem lok_t (hM : MO m n) (hr : ∀ i, i < n → r i < m i) {i : Nat} (hi : i < n) : lok m r (lc m n) i = true ↔ ¬ 0 < fb_ct (tpr m r i) i := by
  rw [lok_iff, fb_ct_pos]
  constructor
  · rintro h ⟨j, h1, h2⟩
    obtain ⟨x, x1, x2, x3⟩ := (tpr_iff hM hr hi (by omega)).mp h2
    exact h j h1 x x1 ⟨x3, x2⟩
  · intro h j hj x hx e
    exact h ⟨j, hj, (tpr_iff hM hr hi (by omega)).mpr ⟨x, hx, e.2, e.1⟩⟩
theorem noneTwice_n (hM : MO m n) (h5 : ∀ i, i < n → σ.1 105 i = nI (m i)) (h6 : ∀ i, i < n → σ.1 106 i = nI (r i)) (hr : ∀ i, i < n → r i < m i) : Mo_isNoneTwice σ (nI n) = some (if djb m r (lc m n) n = true then 1 else 0) := by
  have hn := hM.1
  have key := iter_ix (body := fun s : Int32 => Mo_isNoneTwice_L2 (nI n) σ s) (fun k u => ∃ j, k = n - j ∧ u = nI j ∧ j ≤ n ∧ djb m r (lc m n) j = true) (fun e => e = if djb m r (lc m n) n = true then (1 : Int32) else 0) ?_ FUEL n 0 ⟨0, by omega, rfl, by omega, rfl⟩ (fuel (by omega))
  · obtain ⟨e, b1, b2⟩ := key
    unfold Mo_isNoneTwice
    rw [b1, b2]
  · rintro k _ ⟨j, rfl, rfl, hj, hd⟩
    by_cases z : j < n
    · have e := noneL hM h5 h6 hr z
      by_cases y : 0 < fb_ct (tpr m r j) j
      · right
        rw [if_pos y] at e
        refine ⟨0, ?_, ?_⟩
        · show Mo_isNoneTwice_L2 (nI n) σ (nI j) = _
          unfold Mo_isNoneTwice_L2
          rw [if_neg (by rw [le_nI (by omega) (by omega)]; omega), e]
          rfl
        · rw [if_neg (fun x => by
            have x2 : (djb m r (lc m n) j && lok m r (lc m n) j) = true := djb_le (d := j + 1) (by omega) x
            rw [Bool.and_eq_true] at x2
            exact (lok_t hM hr z).mp x2.2 y)]
      · left
        rw [if_neg y] at e
        refine ⟨nI (j + 1), n - (j + 1), ?_, ⟨j + 1, rfl, rfl, by omega, ?_⟩, by omega⟩
        · show Mo_isNoneTwice_L2 (nI n) σ (nI j) = _
          unfold Mo_isNoneTwice_L2
          rw [if_neg (by rw [le_nI (by omega) (by omega)]; omega), e]
          rw [bs0_r, nI_1, bnd_x]
        · show (djb m r (lc m n) j && lok m r (lc m n) j) = true
          rw [hd, (lok_t hM hr z).mpr y]; rfl
    · right
      have e : j = n := by omega
      rw [e] at hd
      refine ⟨1, ?_, (if_pos hd).symm⟩
      show Mo_isNoneTwice_L2 (nI n) σ (nI j) = _
      unfold Mo_isNoneTwice_L2
      rw [if_pos (by rw [le_nI (by omega) (by omega)]; omega)]
end CHN
