section CHM
variable {m r : Nat → Nat} {L n mode : Nat} {σ : St}
theorem NW_last {g : (Nat → Nat) → Nat} : ∀ (k d : Nat) (r : Nat → Nat), NW m g (k + 1) d r = NW m (fun r => fb_sm (fun v => g (fset r (d + k) v)) (m (d + k))) k d r
  | 0, _, _ => rfl
  | k + 1, d, r => by
    show fb_sm (fun v => NW m g (k + 1) (d + 1) (fset r d v)) (m d) = fb_sm (fun v => NW m (fun r => fb_sm (fun v => g (fset r (d + (k + 1)) v)) (m (d + (k + 1)))) k (d + 1) (fset r d v)) (m d)
    refine fb_sm_cong (fun v _ => ?_)
    rw [NW_last k (d + 1), show d + 1 + k = d + (k + 1) by omega]
def de (m : Nat → Nat) : Nat → (Nat → Nat) → Nat → (Nat → Nat)
  | 0, r, _ => r
  | n + 1, r, x => fset (de m n r (x / m n)) n (x % m n)
theorem de_lt : ∀ {n : Nat} {x i : Nat}, (∀ i, i < n → 0 < m i) → i < n → de m n r x i < m i
  | 0, _, _, _, h => absurd h (Nat.not_lt_zero _)
  | n + 1, x, i, hm, h => by
    show fset (de m n r (x / m n)) n (x % m n) i < m i
    by_cases z : i = n
    · rw [z, fset_1]; exact Nat.mod_lt _ (hm n (by omega))
    · rw [fset_2 _ _ z]; exact de_lt (fun i hi => hm i (by omega)) (by omega)
theorem NW_de : ∀ (n : Nat) (g : (Nat → Nat) → Nat), (∀ i, i < n → 0 < m i) → NW m g n 0 r = fb_sm (fun x => g (de m n r x)) (pr m n)
  | 0, g, _ => by
    show g r = fb_sm (fun x => g r) 1
    rw [fb_sm_const, Nat.one_mul]
  | n + 1, g, h => by
    have hp : 0 < m n := h n (by omega)
    rw [NW_last, NW_de n _ (fun i hi => h i (by omega)), show pr m (n + 1) = pr m n * m n from rfl, sm_mulw]
    refine fb_sm_cong (fun y _ => ?_)
    show fb_sm (fun v => g (fset (de m n r y) (0 + n) v)) (m (0 + n)) = _
    rw [Nat.zero_add]
    refine fb_sm_cong (fun v hv => ?_)
    show g (fset (de m n r y) n v) = g (fset (de m n r ((y * m n + v) / m n)) n ((y * m n + v) % m n))
    rw [show (y * m n + v) / m n = y by rw [Nat.mul_comm, Nat.mul_add_div hp, Nat.div_eq_of_lt hv, Nat.add_zero], show (y * m n + v) % m n = v by rw [Nat.mul_comm, Nat.mul_add_mod, Nat.mod_eq_of_lt hv]]
/-- what both sides know of the moduli -/
def MO (m : Nat → Nat) (n : Nat) : Prop := n ≤ 6 ∧ (∀ i, i < n → 1 ≤ m i ∧ m i ≤ 60) ∧ pr m n ≤ 5040
theorem MO.p (h : MO m n) : ∀ i, i < n → 0 < m i := fun i hi => (h.2.1 i hi).1
theorem MO.le (h : MO m n) {d : Nat} (hd : d ≤ n) : pr m d ≤ 5040 := Nat.le_trans (pr_le h.p hd) h.2.2
theorem MO.lc (h : MO m n) {d : Nat} (hd : d ≤ n) : 0 < lc m d ∧ lc m d ≤ 5040 := ⟨lc_pos (fun i hi => h.p i (by omega)), Nat.le_trans (lc_pr (fun i hi => h.p i (by omega))) (h.le hd)⟩
theorem allWays_n (hM : MO m n) (h5 : ∀ i, i < n → σ.1 105 i = nI (m i)) : Mo_allWays σ (nI n) = some (nI (pr m n)) := by
  have h6 := hM.1
  unfold Mo_allWays
  have key := iter_for (body := fun u : (Int32 × Int32) => Mo_allWays_L4 (nI n) σ u.1 u.2) (fun k => (nI (pr m k), nI k)) (lo := 0) (hi := n) (e := nI (pr m n)) (n := FUEL) (Nat.zero_le _) (fuel (by omega)) ?_ ?_
  · exact congrArg (fun o => bd o (fun v => some v)) key
  · intro k _ hk
    show Mo_allWays_L4 (nI n) σ (nI (pr m k)) (nI k) = some (.inl (nI (pr m (k + 1)), nI (k + 1)))
    unfold Mo_allWays_L4
    rw [if_neg (by rw [le_nI (by omega) (by omega)]; omega), ix_nI (by omega) (by omega), chk_true, tn_nI (by omega), h5 k hk, pk_mul, bnd_x, nI_1, bnd_x]
    rfl
  · show Mo_allWays_L4 (nI n) σ (nI (pr m n)) (nI n) = _
    unfold Mo_allWays_L4
    rw [if_pos (by rw [le_nI (by omega) (by omega)]; omega)]
theorem spanBy_n (hM : MO m n) (h5 : ∀ i, i < n → σ.1 105 i = nI (m i)) : Mo_spanBy σ (nI n) = some (nI (lc m n)) := by
  have h6 := hM.1
  unfold Mo_spanBy
  have key := iter_for (body := fun u : (Int32 × Int32) => Mo_spanBy_L4 (nI n) σ u.1 u.2) (fun k => (nI (lc m k), nI k)) (lo := 0) (hi := n) (e := nI (lc m n)) (n := FUEL) (Nat.zero_le _) (fuel (by omega)) ?_ ?_
  · exact congrArg (fun o => bd o (fun v => some v)) key
  · intro k _ hk
    obtain ⟨l1, l2⟩ := hM.lc (d := k) (by omega)
    obtain ⟨m1, m2⟩ := hM.2.1 k hk
    have hg0 : 0 < Nat.gcd (lc m k) (m k) := Nat.gcd_pos_of_pos_left _ l1
    have hg1 : Nat.gcd (lc m k) (m k) ≤ m k := Nat.gcd_le_right _ (by omega)
    show Mo_spanBy_L4 (nI n) σ (nI (lc m k)) (nI k) = some (.inl (nI (lc m (k + 1)), nI (k + 1)))
    unfold Mo_spanBy_L4
    rw [if_neg (by rw [le_nI (by omega) (by omega)]; omega), ix_nI (by omega) (by omega), chk_true, tn_nI (by omega), h5 k hk, common_n (by omega) (by omega), bd_s, nz_nI hg0 (by omega), chk_true, chk_true, div_nI (by omega) hg0 (by omega), pk_mul, lcm_div', bnd_x, nI_1, bnd_x]
    rfl
  · show Mo_spanBy_L4 (nI n) σ (nI (lc m n)) (nI n) = _
    unfold Mo_spanBy_L4
    rw [if_pos (by rw [le_nI (by omega) (by omega)]; omega)]
theorem nIm1 {k : Nat} : nI k + (-1) = nI k - 1 := (Int32.sub_eq_add_neg _ _).symm
theorem laysWay_n (hM : MO m n) (h5 : ∀ i, i < n → σ.1 105 i = nI (m i)) {x : Nat} (hx : x < 5041) : ∃ σ', Mo_laysWay σ (nI x) (nI n) = some σ' ∧ Fp (fun a i => a = 106) σ σ' ∧ ∀ i, i < n → σ'.1 106 i = nI (de m n r x i) := by
  have h6 := hM.1
  obtain ⟨F, hF⟩ : ∃ F, F = de m n r x := ⟨_, rfl⟩
  have key := iter_ix (body := fun u : (Int32 × Int32 × St) => Mo_laysWay_L7 u.2.2 u.1 u.2.1) (fun k u => ∃ y, y < 5041 ∧ u.1 = nI y ∧ u.2.1 = nI k - 1 ∧ k ≤ n ∧ Fp (fun a i => a = 106) σ u.2.2 ∧ (∀ i, k ≤ i → i < n → u.2.2.1 106 i = nI (F i)) ∧ ∀ i, i < k → F i = de m k r y i) (fun e => Fp (fun a i => a = 106) σ e ∧ ∀ i, i < n → e.1 106 i = nI (F i)) ?_ FUEL n (nI x, nI n - 1, σ) ⟨x, hx, rfl, rfl, Nat.le_refl _, Fp.rf, fun i h1 h2 => by omega, fun i hi => by rw [hF]⟩ (fuel (by omega))
  · obtain ⟨ω, b1, b2, b3⟩ := key
    refine ⟨ω, ?_, b2, by rw [← hF]; exact b3⟩
    unfold Mo_laysWay
    rw [bnd_x, b1, bd_s]
  · rintro k ⟨y', k', u⟩ ⟨y, hy, rfl, rfl, hk, hFr, h1, h2⟩
    have hFr' : Fp (fun a i => a = 106) σ u := hFr
    have h1' : ∀ i, k ≤ i → i < n → u.1 106 i = nI (F i) := h1
    cases k with
    | zero =>
      right
      refine ⟨u, ?_, hFr', fun i hi => h1' i (by omega) hi⟩
      show Mo_laysWay_L7 u (nI y) (nI 0 - 1) = _
      unfold Mo_laysWay_L7
      rw [if_pos (by decide)]
    | succ k =>
      left
      obtain ⟨m1, m2⟩ := hM.2.1 k (by omega)
      have e5 : u.1 105 k = nI (m k) := (hFr'.i (by omega)).trans (h5 k (by omega))
      have hym : y / m k ≤ y := Nat.div_le_self _ _
      refine ⟨(nI (y / m k), nI k - 1, wI u 106 k (nI (y % m k))), k, ?_, ⟨y / m k, by omega, rfl, rfl, by omega, Fp.wI (A := fun a i => a = 106) hFr' (show (106 : Nat) = 106 from rfl), fun i z1 z2 => ?_, fun i hi => ?_⟩, by omega⟩
      · show Mo_laysWay_L7 u (nI y) (nI (k + 1) - 1) = _
        unfold Mo_laysWay_L7
        rw [show nI (k + 1) - 1 = nI k from sub_nI (a := k + 1) (b := 1) (by omega), if_neg (nI_pos (by omega)), ix_nI (by omega) (by omega), chk_true, tn_nI (by omega), e5, nz_nI (by omega) (by omega), chk_true, chk_true, rem_nI (by omega) (by omega) (by omega), bnd_x, chk_true, show (wI u 106 k (nI (y % m k))).1 105 k = nI (m k) from (wI_ne (by omega)).trans e5, nz_nI (by omega) (by omega), chk_true, div_nI (by omega) (by omega) (by omega), bnd_x, nIm1, bnd_x]
      · show (wI u 106 k (nI (y % m k))).1 106 i = nI (F i)
        by_cases z : i = k
        · rw [z, wI_s, h2 k (by omega)]
          show _ = nI (fset (de m k r (y / m k)) k (y % m k) k)
          rw [fset_1]
        · rw [wI_ne (by omega)]; exact h1' i (by omega) z2
      · rw [h2 i (by omega)]
        show fset (de m k r (y / m k)) k (y % m k) i = _
        exact fset_2 _ _ (by omega)
end CHM
