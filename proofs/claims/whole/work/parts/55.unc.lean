/-! chances -/
def bnm (a b : Nat) : Nat → Nat → Nat
  | 0, i => if i = 0 then 1 else 0
  | m + 1, i => bnm a b m i * b + (if i = 0 then 0 else bnm a b m (i - 1) * a)
theorem bnm_0 (a b i : Nat) : bnm a b 0 i = if i = 0 then 1 else 0 := rfl
theorem bnm_s (a b m i : Nat) : bnm a b (m + 1) i = bnm a b m i * b + (if i = 0 then 0 else bnm a b m (i - 1) * a) := rfl
theorem bnm_big (a b : Nat) : ∀ m i, m < i → bnm a b m i = 0
  | 0, i, h => if_neg (by omega)
  | m + 1, i, h => by
    rw [bnm_s, bnm_big a b m i (by omega), bnm_big a b m (i - 1) (by omega), if_neg (by omega)]
    omega
theorem bnm_g (g a b : Nat) : ∀ m i, bnm (g * a) (g * b) m i = g ^ m * bnm a b m i
  | 0, i => by rw [bnm_0, bnm_0, Nat.pow_zero, Nat.one_mul]
  | m + 1, i => by
    rw [bnm_s, bnm_s, bnm_g g a b m i, bnm_g g a b m (i - 1), Nat.pow_succ]
    by_cases h : i = 0
    · rw [if_pos h, if_pos h]; grind
    · rw [if_neg h, if_neg h]; grind
def chs : Nat → Nat → Nat
  | _, 0 => 1
  | 0, _ + 1 => 0
  | n + 1, k + 1 => chs n k + chs n (k + 1)
theorem chs_big : ∀ n k, n < k → chs n k = 0
  | 0, 0, h => by omega
  | 0, _ + 1, _ => rfl
  | n + 1, 0, h => by omega
  | n + 1, k + 1, h => by
    show chs n k + chs n (k + 1) = 0
    rw [chs_big n k (by omega), chs_big n (k + 1) (by omega)]
theorem chs_0 (n : Nat) : chs n 0 = 1 := by cases n <;> rfl
theorem bnm_ch (a b : Nat) : ∀ m i, i ≤ m → bnm a b m i = chs m i * a ^ i * b ^ (m - i)
  | 0, i, h => by
    have : i = 0 := by omega
    subst this
    rfl
  | m + 1, i, h => by
    rw [bnm_s]
    by_cases h0 : i = 0
    · subst h0
      rw [if_pos rfl, bnm_ch a b m 0 (by omega), chs_0, chs_0, Nat.sub_zero, Nat.sub_zero, Nat.pow_succ]
      grind
    · obtain ⟨j, rfl⟩ : ∃ j, i = j + 1 := ⟨i - 1, by omega⟩
      rw [if_neg h0, show j + 1 - 1 = j by omega, bnm_ch a b m j (by omega), show chs (m + 1) (j + 1) = chs m j + chs m (j + 1) from rfl, show m + 1 - (j + 1) = m - j by omega, Nat.pow_succ]
      by_cases e : j + 1 ≤ m
      · rw [bnm_ch a b m (j + 1) e, Nat.pow_succ, show m - j = m - (j + 1) + 1 by omega, Nat.pow_succ]
        grind
      · rw [bnm_big a b m (j + 1) (by omega), chs_big m (j + 1) (by omega)]
        grind
theorem bnm_sum (a b m : Nat) : ∀ N, fb_sm (bnm a b (m + 1)) (N + 1) = b * fb_sm (bnm a b m) (N + 1) + a * fb_sm (bnm a b m) N
  | 0 => by
    show 0 + bnm a b (m + 1) 0 = b * (0 + bnm a b m 0) + a * 0
    rw [bnm_s, if_pos rfl]
    grind
  | N + 1 => by
    rw [fb_sm_succ, bnm_sum a b m N, fb_sm_succ (bnm a b m) (N + 1), fb_sm_succ (bnm a b m) N, bnm_s, if_neg (by omega), show N + 1 - 1 = N by omega]
    grind
theorem bnm_tot (a b : Nat) : ∀ m N, fb_sm (bnm a b m) N ≤ (a + b) ^ m
  | 0, N => by
    rw [Nat.pow_zero]
    cases N with
    | zero => exact Nat.zero_le _
    | succ N =>
      have : ∀ N, fb_sm (bnm a b 0) (N + 1) = 1 := fun N => by
        induction N with
        | zero => rfl
        | succ N ih => rw [fb_sm_succ, ih, bnm_0, if_neg (by omega)]
      rw [this]
      exact Nat.le_refl _
  | m + 1, N => by
    cases N with
    | zero => exact Nat.zero_le _
    | succ N =>
      have h1 := bnm_tot a b m (N + 1)
      have h2 := bnm_tot a b m N
      rw [bnm_sum, Nat.pow_succ, Nat.mul_add]
      have h3 := Nat.mul_le_mul_left b h1
      have h4 := Nat.mul_le_mul_left a h2
      rw [Nat.mul_comm _ a, Nat.mul_comm _ b]
      omega
theorem ways_7 : ∀ n, n < 6 → ∀ j, j < 6 → j ≤ n → iter (fun s : (Int64 × Int32) => RC_ways_L5 (nI n) (nI j) s.1 s.2) 7 (1, 0) = some (lN (chs n j)) := by decide +kernel
theorem ways_n {n j : Nat} (hn : n ≤ 5) (hj : j ≤ n) : RC_ways (nI n) (nI j) = some (lN (chs n j)) := by
  unfold RC_ways
  rw [iter_mono (ways_7 n (by omega) j (by omega) hj) (Nat.le_of_lt (fuel (by omega))), bd_s]
theorem power_n {b n : Nat} (hn : n ≤ 100) : RC_power (lN b) (nI n) = some (lN (b ^ n)) := by
  unfold RC_power
  have key := iter_for (body := fun s : (Int64 × Int32) => RC_power_L5 (lN b) (nI n) s.1 s.2) (fun k => (lN (b ^ k), nI k)) (lo := 0) (hi := n) (e := lN (b ^ n)) (n := FUEL) (Nat.zero_le _) (fuel (by omega)) ?_ ?_
  · exact congrArg (fun o => bd o (fun v => some v)) key
  · intro k _ hk
    show RC_power_L5 (lN b) (nI n) (lN (b ^ k)) (nI k) = some (.inl (lN (b ^ (k + 1)), nI (k + 1)))
    unfold RC_power_L5
    rw [if_neg (by rw [le_nI (by omega) (by omega)]; omega), lN_mul, bnd_x, bnd_x, nI_1, Nat.pow_succ]
  · show RC_power_L5 (lN b) (nI n) (lN (b ^ n)) (nI n) = _
    unfold RC_power_L5
    rw [if_pos (by rw [le_nI (by omega) (by omega)]; omega)]
theorem unc_c {σ : St} {n k o s : Nat} (hn : n ≤ 5) (hk : k ≤ 5) (ho : o ≤ s) : iter (fun u : (Int64 × Int32) => RC_uncaught_L97 (nI n) (lN o) (lN s) σ u.1 u.2) FUEL (0, nI k) = some (lN (fb_sm (fun i => bnm o (s - o) n (k + i)) (n + 1 - k))) := by
  have := iter_for (body := fun u : (Int64 × Int32) => RC_uncaught_L97 (nI n) (lN o) (lN s) σ u.1 u.2) (fun i => (lN (fb_sm (fun i => bnm o (s - o) n (k + i)) i), nI (k + i))) (lo := 0) (hi := n + 1 - k) (e := lN (fb_sm (fun i => bnm o (s - o) n (k + i)) (n + 1 - k))) (n := FUEL) (Nat.zero_le _) (fuel (by omega)) (by
    intro i _ hi
    show RC_uncaught_L97 (nI n) (lN o) (lN s) σ (lN (fb_sm (fun i => bnm o (s - o) n (k + i)) i)) (nI (k + i)) = some (.inl (lN (fb_sm (fun i => bnm o (s - o) n (k + i)) (i + 1)), nI (k + (i + 1))))
    unfold RC_uncaught_L97
    rw [if_neg (by rw [lt_nI (by omega) (by omega)]; omega), ways_n hn (by omega), bd_s, power_n (by omega), bd_s, lN_sub ho, sub_nI (by omega), power_n (by omega), bd_s, lN_mul, lN_mul, lN_add, bnd_x, bnd_x, nI_1, fb_sm_succ, bnm_ch o (s - o) n (k + i) (by omega), Nat.add_assoc]) (by
    show RC_uncaught_L97 (nI n) (lN o) (lN s) σ (lN (fb_sm (fun i => bnm o (s - o) n (k + i)) (n + 1 - k))) (nI (k + (n + 1 - k))) = _
    unfold RC_uncaught_L97
    rw [if_pos (by rw [lt_nI (by omega) (by omega)]; omega)])
  exact this
def Agb (a i : Nat) : Prop := a = 107
theorem unc_m0 {σ : St} {x y : Int32} {z v : Int64} {a b : Nat} : ∃ σ', iter (fun u : (Int32 × St) => Mo_uncaught_L57 x y z v u.2 u.1) FUEL (0, σ) = some σ' ∧ Fp Agb σ σ' ∧ ∀ i, i < 6 → σ'.2 107 i = lN (bnm a b 0 i) := by
  refine iter_cnt (body := fun u : (Int32 × St) => Mo_uncaught_L57 x y z v u.2 u.1) (fun t u => u.1 = nI t ∧ Fp Agb σ u.2 ∧ ∀ i, i < t → u.2.2 107 i = lN (bnm a b 0 i)) (fun e => Fp Agb σ e ∧ ∀ i, i < 6 → e.2 107 i = lN (bnm a b 0 i)) (lo := 0) (hi := 6) (n := FUEL) (Nat.zero_le _) (fuel (by omega)) ?_ ?_ (s := (0, σ)) ⟨rfl, Fp.rf, fun i hi => by omega⟩
  · rintro t ⟨t', u⟩ _ ht ⟨rfl, F, hB⟩
    have F' : Fp Agb σ u := F
    refine ⟨(nI (t + 1), wL u 107 t (lN (bnm a b 0 t))), ?_, rfl, F'.wL rfl, fun i hi => ?_⟩
    · show Mo_uncaught_L57 x y z v u (nI t) = _
      unfold Mo_uncaught_L57
      rw [show (6 : Int32) = nI 6 from rfl, if_neg (by rw [le_nI (by omega) (by omega)]; omega), bnm_0, ix_nI (by omega) (by omega), chk_true, tn_nI (by omega), bnd_x, bnd_x, bnd_x, bnd_x, nI_1]
      by_cases e : t = 0
      · rw [if_pos (by rw [e]; rfl), if_pos e]; rfl
      · rw [if_neg (by rw [show (0 : Int32) = nI 0 from rfl, eq_nI (by omega) (by omega)]; exact e), if_neg e]; rfl
    · by_cases e : i = t
      · rw [e]; exact wL_s
      · exact (wL_ne (by omega)).trans (hB i (by omega))
  · rintro ⟨t', u⟩ ⟨rfl, F, hB⟩
    refine ⟨u, ?_, F, hB⟩
    show Mo_uncaught_L57 x y z v u (nI 6) = _
    unfold Mo_uncaught_L57
    rw [if_pos (by decide)]
theorem unc_m1 {σ : St} {x y t : Int32} {v : Int64} {S G m : Nat} (hS : S ≤ 5040) (hG : G ≤ S) (hs : σ.1 92 23 = nI S) (h : ∀ i, i < 6 → σ.2 107 i = lN (bnm G (S - G) m i)) : ∃ σ', iter (fun u : (Int32 × St) => Mo_uncaught_L99 x y (lN G) v t u.2 u.1) FUEL (5, σ) = some σ' ∧ Fp Agb σ σ' ∧ ∀ i, i < 6 → σ'.2 107 i = lN (bnm G (S - G) (m + 1) i) := by
  refine iter_cnt (body := fun u : (Int32 × St) => Mo_uncaught_L99 x y (lN G) v t u.2 u.1) (fun j u => u.1 = (if j ≤ 5 then nI (5 - j) else -1) ∧ Fp Agb σ u.2 ∧ ∀ i, i < 6 → u.2.2 107 i = if 6 ≤ i + j then lN (bnm G (S - G) (m + 1) i) else lN (bnm G (S - G) m i)) (fun e => Fp Agb σ e ∧ ∀ i, i < 6 → e.2 107 i = lN (bnm G (S - G) (m + 1) i)) (lo := 0) (hi := 6) (n := FUEL) (Nat.zero_le _) (fuel (by omega)) ?_ ?_ (s := (5, σ)) ⟨rfl, Fp.rf, fun i hi => by rw [if_neg (by omega)]; exact h i hi⟩
  · rintro j ⟨t', u⟩ _ hj ⟨hj2, F, hB⟩
    have F' : Fp Agb σ u := F
    have hB' : ∀ i, i < 6 → u.2 107 i = if 6 ≤ i + j then lN (bnm G (S - G) (m + 1) i) else lN (bnm G (S - G) m i) := hB
    obtain ⟨i, hi⟩ : ∃ i, i = 5 - j := ⟨_, rfl⟩
    have hj2' : t' = nI i := by rw [hi]; exact hj2.trans (if_pos (by omega))
    subst hj2'
    have hs' : u.1 92 23 = nI S := (F'.i (by unfold Agb; omega)).trans hs
    have st : nI i + (-1) = if j + 1 ≤ 5 then nI (5 - (j + 1)) else -1 := by
      by_cases z : j + 1 ≤ 5
      · rw [if_pos z]
        have := pk_m1 (5 - (j + 1))
        rwa [show 5 - (j + 1) + 1 = i by omega] at this
      · rw [if_neg z, show i = 0 by omega]; rfl
    have g0 := hB' i (by omega)
    rw [if_neg (by omega)] at g0
    refine ⟨(if j + 1 ≤ 5 then nI (5 - (j + 1)) else -1, wL u 107 i (lN (bnm G (S - G) (m + 1) i))), ?_, rfl, F'.wL rfl, fun k hk => ?_⟩
    · show Mo_uncaught_L99 x y (lN G) v t u (nI i) = _
      unfold Mo_uncaught_L99
      rw [if_neg (nI_pos (by omega)), ix_nI (by omega) (by omega), chk_true, hs', nI_l (by omega), lN_sub hG, tn_nI (by omega), g0, lN_mul]
      by_cases e : i = 0
      · rw [if_pos (by rw [e]; rfl), chk_true, bnd_x, bnd_x, st, bnm_s, if_pos e, show lN (bnm G (S - G) m i * (S - G)) + 0 = lN (bnm G (S - G) m i * (S - G) + 0) from lN_add _ 0]
      · have g1 := hB' (i - 1) (by omega)
        rw [if_neg (by omega)] at g1
        rw [if_neg (by rw [show (0 : Int32) = nI 0 from rfl, eq_nI (by omega) (by omega)]; exact e), show nI i - 1 = nI (i - 1) from sub_nI (a := i) (b := 1) (by omega), ix_nI (a := i - 1) (by omega) (by omega), chk_true, chk_true, tn_nI (by omega), g1, lN_mul, lN_add, bnd_x, bnd_x, st, bnm_s, if_neg e]
    · show (wL u 107 i (lN (bnm G (S - G) (m + 1) i))).2 107 k = _
      by_cases e : k = i
      · rw [e, wL_s, if_pos (by omega)]
      · rw [wL_ne (by omega), hB' k hk]
        by_cases z : 6 ≤ k + j
        · rw [if_pos z, if_pos (by omega)]
        · rw [if_neg z, if_neg (by omega)]
  · rintro ⟨t', u⟩ ⟨hj2, F, hB⟩
    have hj2' : t' = -1 := hj2
    subst hj2'
    refine ⟨u, ?_, F, fun i hi => by have := hB i hi; rwa [if_pos (by omega)] at this⟩
    show Mo_uncaught_L99 x y (lN G) v t u (-1) = _
    unfold Mo_uncaught_L99
    rw [if_pos (by decide)]
theorem unc_m2 {σ : St} {y : Int32} {S G n : Nat} (hn : n ≤ 5) (hS : S ≤ 5040) (hG : G ≤ S) (hs : σ.1 92 23 = nI S) (h : ∀ i, i < 6 → σ.2 107 i = lN (bnm G (S - G) 0 i)) : ∃ σ', iter (fun u : (Int64 × Int32 × St) => Mo_uncaught_L90 (nI n) y (lN G) u.2.2 u.1 u.2.1) FUEL (1, 0, σ) = some (lN (S ^ n), σ') ∧ Fp Agb σ σ' ∧ ∀ i, i < 6 → σ'.2 107 i = lN (bnm G (S - G) n i) := by
  obtain ⟨⟨v, ω⟩, c1, c2, c3, c4⟩ := iter_cnt (body := fun u : (Int64 × Int32 × St) => Mo_uncaught_L90 (nI n) y (lN G) u.2.2 u.1 u.2.1) (fun m u => u.1 = lN (S ^ m) ∧ u.2.1 = nI m ∧ Fp Agb σ u.2.2 ∧ ∀ i, i < 6 → u.2.2.2 107 i = lN (bnm G (S - G) m i)) (fun e => e.1 = lN (S ^ n) ∧ Fp Agb σ e.2 ∧ ∀ i, i < 6 → e.2.2 107 i = lN (bnm G (S - G) n i)) (lo := 0) (hi := n) (n := FUEL) (Nat.zero_le _) (fuel (by omega)) (by
    rintro m ⟨v, m', u⟩ _ hm ⟨rfl, rfl, F, hB⟩
    have F' : Fp Agb σ u := F
    obtain ⟨υ, d1, d2, d3⟩ := unc_m1 (σ := u) (x := nI n) (y := y) (t := nI m) (v := lN (S ^ m)) hS hG ((F'.i (by unfold Agb; omega)).trans hs) hB
    refine ⟨(lN (S ^ (m + 1)), nI (m + 1), υ), ?_, rfl, rfl, F'.tr d2, d3⟩
    show Mo_uncaught_L90 (nI n) y (lN G) u (lN (S ^ m)) (nI m) = _
    unfold Mo_uncaught_L90
    rw [if_neg (by rw [le_nI (by omega) (by omega)]; omega), d1, bd_s, (d2.i (by unfold Agb; omega)).trans ((F'.i (by unfold Agb; omega)).trans hs), nI_l (by omega), lN_mul, bnd_x, bnd_x, nI_1, Nat.pow_succ]) (by
    rintro ⟨v, m', u⟩ ⟨rfl, rfl, F, hB⟩
    refine ⟨(lN (S ^ n), u), ?_, rfl, F, hB⟩
    show Mo_uncaught_L90 (nI n) y (lN G) u (lN (S ^ n)) (nI n) = _
    unfold Mo_uncaught_L90
    rw [if_pos (by rw [le_nI (by omega) (by omega)]; omega)]) (s := (1, 0, σ)) ⟨rfl, rfl, Fp.rf, h⟩
  have c2' : v = lN (S ^ n) := c2
  rw [c2'] at c1
  exact ⟨ω, c1, c3, c4⟩
theorem unc_m3 {σ : St} {v : Int64} {k : Nat} {f : Nat → Nat} (hk : k ≤ 5) (h : ∀ i, i < 6 → σ.2 107 i = lN (f i)) : iter (fun u : (Int64 × Int32) => Mo_uncaught_L175 v σ u.1 u.2) FUEL (0, nI k) = some (lN (fb_sm (fun i => f (k + i)) (6 - k))) := by
  exact iter_for (body := fun u : (Int64 × Int32) => Mo_uncaught_L175 v σ u.1 u.2) (fun i => (lN (fb_sm (fun i => f (k + i)) i), nI (k + i))) (lo := 0) (hi := 6 - k) (e := lN (fb_sm (fun i => f (k + i)) (6 - k))) (n := FUEL) (Nat.zero_le _) (fuel (by omega)) (by
    intro i _ hi
    show Mo_uncaught_L175 v σ (lN (fb_sm (fun i => f (k + i)) i)) (nI (k + i)) = some (.inl (lN (fb_sm (fun i => f (k + i)) (i + 1)), nI (k + (i + 1))))
    unfold Mo_uncaught_L175
    rw [show (6 : Int32) = nI 6 from rfl, if_neg (by rw [le_nI (by omega) (by omega)]; omega), ix_nI (by omega) (by omega), chk_true, tn_nI (by omega), h _ (by omega), lN_add, bnd_x, bnd_x, nI_1, fb_sm_succ, Nat.add_assoc]) (by
    show Mo_uncaught_L175 v σ (lN (fb_sm (fun i => f (k + i)) (6 - k))) (nI (k + (6 - k))) = _
    unfold Mo_uncaught_L175
    rw [show (6 : Int32) = nI 6 from rfl, if_pos (by rw [le_nI (by omega) (by omega)]; omega)])
theorem sm_tail {f : Nat → Nat} {m : Nat} : ∀ d, (∀ i, m ≤ i → f i = 0) → fb_sm f (m + d) = fb_sm f m
  | 0, _ => rfl
  | d + 1, h => by rw [← Nat.add_assoc, fb_sm_succ, sm_tail d h, h _ (by omega)]; rfl
theorem sm_mul (g : Nat) (f : Nat → Nat) : ∀ n, fb_sm (fun i => g * f i) n = g * fb_sm f n
  | 0 => rfl
  | n + 1 => by rw [fb_sm_succ, fb_sm_succ, sm_mul g f n, Nat.mul_add]
theorem sm_off (f : Nat → Nat) (k n : Nat) : fb_sm (fun i => f (k + i)) n ≤ fb_sm f (k + n) := by
  rw [fb_sm_split]; omega
theorem call_uncaught {σ : St} (I : Inv σ) (p p2 : Int32) : Call (fun σ => RC_uncaught σ p p2) (fun σ => Mo_uncaught σ p p2) σ := by
  obtain ⟨c, od, on, rs, md, nm, hc, hm, w⟩ := I.2.2.2.2.1
  rcases within_ex p (lo := 0) (hi := 5) 0 5 rfl rfl (by omega) with h | ⟨n, _, hn, rfl, h⟩
  · refine call_s (r := 0) (v := 1) I ?_ (fun σ1 F => ?_)
    · show RC_uncaught σ p p2 = _
      unfold RC_uncaught
      rw [h, bd_s, if_pos rfl, RC_deny_n, bd2_s, ckl0, chk_true]
    · show Mo_uncaught σ1 p p2 = _
      unfold Mo_uncaught
      rw [isFrom_w, h, bd_s, if_pos rfl, Mo_is_n _ (by decide), bd2_s, ckl0, chk_true]
  rcases within_ex p2 (lo := 0) (hi := 5) 0 5 rfl rfl (by omega) with h' | ⟨k, _, hk, rfl, h'⟩
  · refine call_s (r := 0) (v := 1) I ?_ (fun σ1 F => ?_)
    · show RC_uncaught σ (nI n) p2 = _
      unfold RC_uncaught
      rw [h, bd_s, if_neg (by decide), h', bd_s, if_pos rfl, RC_deny_n, bd2_s, ckl0, chk_true]
    · show Mo_uncaught σ1 (nI n) p2 = _
      unfold Mo_uncaught
      rw [isFrom_w, h, bd_s, if_neg (by decide), isFrom_w, h', bd_s, if_pos rfl, Mo_is_n _ (by decide), bd2_s, ckl0, chk_true]
  by_cases h0 : spn md on c = 0
  · refine call_w (r := 0) I ?_ (fun σ1 F => ?_)
    · show RC_uncaught σ (nI n) (nI k) = _
      unfold RC_uncaught
      rw [h, bd_s, if_neg (by decide), h', bd_s, if_neg (by decide), sieved_0 hc w h0, bd2_s, if_pos rfl, RC_deny_n, bd2_s, ckl0, chk_true]
    · show Mo_uncaught σ1 (nI n) (nI k) = _
      unfold Mo_uncaught
      rw [isFrom_w, h, bd_s, if_neg (by decide), isFrom_w, h', bd_s, if_neg (by decide), laysNow_0 (hm.w2 F) w h0, bd2_s, if_pos rfl, Mo_is_n _ (by decide), bd2_s, ckl0, chk_true]
  obtain ⟨p1, p2⟩ := spn_pos h0
  obtain ⟨τ, a1, a2, a3, a4⟩ := sieved_n hc w h0
  have hg := gpn_le c on rs md (spn md on c)
  have gc := gaps_c a4 p2
  obtain ⟨S, hS⟩ : ∃ S, S = spn md on c := ⟨_, rfl⟩
  obtain ⟨G, hG⟩ : ∃ G, G = gpn c on rs md (spn md on c) := ⟨_, rfl⟩
  rw [← hG] at gc hg
  rw [← hS] at p1 p2 hg
  have hs1 := a4.1
  rw [← hS] at hs1
  obtain ⟨g, hgd⟩ : ∃ g, g = Nat.gcd G S := ⟨_, rfl⟩
  have g0 : 0 < g := by rw [hgd]; exact Nat.gcd_pos_of_pos_right _ p1
  have g1 : g ≤ S := by rw [hgd]; exact Nat.gcd_le_right _ p1
  have eG : G = g * (G / g) := by rw [hgd]; exact (Nat.mul_div_cancel' (Nat.gcd_dvd_left G S)).symm
  have eS : S = g * (S / g) := by rw [hgd]; exact (Nat.mul_div_cancel' (Nat.gcd_dvd_right G S)).symm
  have hos : G / g ≤ S / g := Nat.div_le_div_right hg
  have es : S - G = g * (S / g - G / g) := by rw [Nat.mul_sub, ← eG, ← eS]
  have hSg : S / g ≤ 5040 := Nat.le_trans (Nat.div_le_self _ _) p2
  have hS1 : 1 ≤ S / g := by
    apply Nat.pos_of_ne_zero
    intro z
    rw [z, Nat.mul_zero] at eS
    omega
  obtain ⟨T, hT⟩ : ∃ T, T = fb_sm (fun i => bnm (G / g) (S / g - G / g) n (k + i)) (n + 1 - k) := ⟨_, rfl⟩
  have pw : ∀ x, x ≤ 5040 → x ^ n ≤ 3252016064102400000 := fun x hx => by
    refine Nat.le_trans (Nat.pow_le_pow_left hx n) (Nat.le_trans (Nat.pow_le_pow_right (by decide) hn) ?_)
    decide
  have hTb : T ≤ (S / g) ^ n := by
    rw [hT]
    refine Nat.le_trans (sm_off (bnm (G / g) (S / g - G / g) n) k (n + 1 - k)) ?_
    have := bnm_tot (G / g) (S / g - G / g) n (k + (n + 1 - k))
    rwa [show G / g + (S / g - G / g) = S / g by omega] at this
  have hT6 : fb_sm (fun i => bnm (G / g) (S / g - G / g) n (k + i)) (6 - k) = T := by
    rw [hT]
    have := sm_tail (f := fun i => bnm (G / g) (S / g - G / g) n (k + i)) (m := n + 1 - k) (6 - k - (n + 1 - k)) (fun i hi => bnm_big _ _ _ _ (by omega))
    rwa [show n + 1 - k + (6 - k - (n + 1 - k)) = 6 - k by omega] at this
  have hM : fb_sm (fun i => bnm G (S - G) n (k + i)) (6 - k) = g ^ n * T := by
    rw [← hT6, ← sm_mul, es]
    refine fb_sm_cong (fun i _ => ?_)
    show bnm G (g * (S / g - G / g)) n (k + i) = g ^ n * bnm (G / g) (S / g - G / g) n (k + i)
    rw [← bnm_g, ← eG]
  have hSp : S ^ n = g ^ n * (S / g) ^ n := by rw [← Nat.mul_pow, ← eS]
  have hMb : g ^ n * T ≤ S ^ n := by rw [hSp]; exact Nat.mul_le_mul_left _ hTb
  have q1 := pw S p2
  have q2 := pw (S / g) hSg
  have q3 : 0 < (S / g) ^ n := Nat.pow_pos hS1
  have q4 : 0 < S ^ n := Nat.pow_pos p1
  have q5 : 0 < g ^ n := Nat.pow_pos g0
  refine call_x I (a2.mono (fun a i q => Ac0.q a i (Asv.q a i q))) (r := 1) (x := lN (T / Nat.gcd T ((S / g) ^ n))) (y := lN ((S / g) ^ n / Nat.gcd T ((S / g) ^ n))) ?_ (fun σ1 F => ?_)
  · show RC_uncaught σ (nI n) (nI k) = _
    unfold RC_uncaught
    rw [h, bd_s, if_neg (by decide), h', bd_s, if_neg (by decide), a1, bd2_s, if_neg (by decide), gc, bd_s, hs1, gcdI_n (by omega) (by omega), bd_s, ← hgd, nI_l (by omega), nI_l (by omega), partByL_n g0 (by omega) (by omega), bd_s, partByL_n g0 (by omega) (by omega), bd_s, unc_c hn hk hos, bd_s, power_n (by omega), bd_s, ← hT, tell_c _ (by omega) q3 (by omega), bd2_s, ckl1, chk_true]
  · obtain ⟨υ, b1, b2, b3, b4, b5⟩ := laysNow_n (hm.w2 F) w h0
    have gm := gaps_m w.1 (by omega) b4 b5
    rw [← hG] at gm
    rw [← hS] at b4
    obtain ⟨υ1, d1, d2, d3⟩ := unc_m0 (σ := υ) (x := nI n) (y := nI k) (z := lN G) (v := 1) (a := G) (b := S - G)
    obtain ⟨υ2, e1, e2, e3⟩ := unc_m2 (σ := υ1) (y := nI k) hn p2 hg ((d2.i (by unfold Agb; omega)).trans b4) d3
    refine ⟨υ2, (b2.mono (fun a i q => Am0.q a i (Aly.q a i q))).tr ((d2.tr e2).mono (fun a i q => by unfold Agb at q; unfold Am; omega)), ?_⟩
    show Mo_uncaught σ1 (nI n) (nI k) = _
    unfold Mo_uncaught
    rw [isFrom_w, h, bd_s, if_neg (by decide), isFrom_w, h', bd_s, if_neg (by decide), b1, bd2_s, if_neg (by decide), gm, bd_s, nI_l (by omega), bnd_x, d1, bd_s, e1, bd2_s, unc_m3 hk e3, bd_s, hM, tell_m _ (by omega) q4 (by omega), bd2_s, ckl1, chk_true, hSp, Nat.gcd_mul_left, Nat.mul_div_mul_left _ _ q5, Nat.mul_div_mul_left _ _ q5]
