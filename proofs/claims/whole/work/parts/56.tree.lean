/-! the tree: least primes, kinds of nodes -/
def lpf (n : Nat) : Nat := if n ≤ 1 then 1 else 2 + fa_first (fun j => decide (n % (j + 2) = 0)) (n - 2)
theorem lpf_n {n : Nat} (h : 2 ≤ n) : 2 ≤ lpf n ∧ lpf n ≤ n ∧ n % lpf n = 0 ∧ ∀ p, 2 ≤ p → p < lpf n → ¬ n % p = 0 := by
  unfold lpf
  rw [if_neg (by omega)]
  have hle := fa_first_le (fun j => decide (n % (j + 2) = 0)) (n - 2)
  have hno := fa_first_no (fun j => decide (n % (j + 2) = 0)) (n - 2)
  have hyes := fa_first_yes (fun j => decide (n % (j + 2) = 0)) (n - 2)
  generalize fa_first (fun j => decide (n % (j + 2) = 0)) (n - 2) = t at hle hno hyes
  refine ⟨by omega, by omega, ?_, fun p h1 h2 => ?_⟩
  · rcases Nat.lt_or_ge t (n - 2) with q | q
    · have := of_decide_eq_true (hyes q)
      rwa [Nat.add_comm t 2] at this
    · rw [show 2 + t = n by omega, Nat.mod_self]
  · have := of_decide_eq_false (hno (p - 2) (by omega))
    rwa [show p - 2 + 2 = p by omega] at this
theorem primeM_n {n : Nat} (h : 2 ≤ n) (hn : n ≤ 5040) : Mo_leastPrime (nI n) = some (nI (lpf n)) := by
  obtain ⟨l1, l2, l3, l4⟩ := lpf_n h
  unfold Mo_leastPrime
  have key := iter_for (body := fun s : Int32 => Mo_leastPrime_L2 (nI n) s) (fun p => nI p) (lo := 2) (hi := lpf n) (n := FUEL) (e := nI (lpf n)) l1 (fuel (by omega)) ?_ ?_
  · exact congrArg (fun o => bd o (fun v => some v)) key
  · intro p h1 h2
    show Mo_leastPrime_L2 (nI n) (nI p) = some (.inl (nI (p + 1)))
    have hl : n % p < p := Nat.mod_lt _ (by omega)
    unfold Mo_leastPrime_L2
    rw [nz_nI (by omega) (by omega), chk_true, rem_nI (by omega) (by omega) (by omega), show (0 : Int32) = nI 0 from rfl, if_neg (by rw [eq_nI (by omega) (by omega)]; exact l4 p h1 h2), bnd_x, nI_1]
  · show Mo_leastPrime_L2 (nI n) (nI (lpf n)) = _
    unfold Mo_leastPrime_L2
    rw [nz_nI (by omega) (by omega), chk_true, rem_nI (by omega) (by omega) (by omega), l3, if_pos (show nI 0 = 0 from rfl)]
theorem primeC_n {n : Nat} (h : 2 ≤ n) (hn : n ≤ 5040) : RC_leastPrimeOf (nI n) = some (nI (lpf n)) := by
  obtain ⟨l1, l2, l3, l4⟩ := lpf_n h
  have sq : ∀ {p q : Nat}, p ≤ q → p * p ≤ q * q := fun z => Nat.mul_le_mul z z
  have big : ∀ p, p ≤ 5040 → p * p ≤ 25401600 := fun p hp => sq hp
  have stp : ∀ p, 2 ≤ p → p < lpf n → p * p ≤ n → RC_leastPrimeOf_L2 (nI n) (nI p) = some (.inl (nI (p + 1))) := fun p h1 h2 h3 => by
    have hl : n % p < p := Nat.mod_lt _ (by omega)
    unfold RC_leastPrimeOf_L2
    rw [pk_mul, if_neg (by rw [lt_nI (by omega) (by omega)]; omega), leftBy_n (by omega) (by omega) (by omega), bd_s, show (0 : Int32) = nI 0 from rfl, if_neg (by rw [eq_nI (by omega) (by omega)]; exact l4 p h1 h2), bnd_x, nI_1]
  unfold RC_leastPrimeOf
  by_cases q : lpf n * lpf n ≤ n
  · refine iter_for (body := fun s : Int32 => RC_leastPrimeOf_L2 (nI n) s) (fun p => nI p) (lo := 2) (hi := lpf n) (n := FUEL) (e := nI (lpf n)) l1 (fuel (by omega)) (fun p h1 h2 => stp p h1 h2 (by have := sq (Nat.le_of_lt h2); omega)) ?_
    show RC_leastPrimeOf_L2 (nI n) (nI (lpf n)) = _
    unfold RC_leastPrimeOf_L2
    rw [pk_mul, if_neg (by rw [lt_nI (by omega) (by omega)]; omega), leftBy_n (by omega) (by omega) (by omega), bd_s, l3, if_pos (show nI 0 = 0 from rfl)]
  · have e : lpf n = n := by
      apply Classical.byContradiction
      intro z
      have hd := Nat.div_add_mod n (lpf n)
      rw [l3, Nat.add_zero] at hd
      have hr : 2 ≤ n / lpf n := by
        apply Nat.le_of_not_lt
        intro y
        rcases (show n / lpf n = 0 ∨ n / lpf n = 1 by generalize n / lpf n = r at y; omega) with y | y
        · rw [y, Nat.mul_zero] at hd; omega
        · rw [y, Nat.mul_one] at hd; exact z hd
      have hdv : n % (n / lpf n) = 0 := by
        have := Nat.mul_mod_left (lpf n) (n / lpf n)
        rwa [hd] at this
      have hge : lpf n ≤ n / lpf n := Nat.le_of_not_lt (fun y => l4 _ hr y hdv)
      have := Nat.mul_le_mul_left (lpf n) hge
      omega
    have hex : ∃ p, p < n + 1 ∧ (2 ≤ p ∧ n < p * p) := ⟨n, by omega, h, by rw [e] at q; omega⟩
    obtain ⟨p0, h1, ⟨h2, h3⟩, h4⟩ := fb_first hex
    have b0 := big p0 (by omega)
    refine iter_for (body := fun s : Int32 => RC_leastPrimeOf_L2 (nI n) s) (fun p => nI p) (lo := 2) (hi := p0) (n := FUEL) (e := nI (lpf n)) h2 (fuel (by omega)) (fun p g1 g2 => stp p g1 (by omega) (Nat.le_of_not_lt (fun y => h4 p g2 ⟨g1, y⟩))) ?_
    show RC_leastPrimeOf_L2 (nI n) (nI p0) = _
    unfold RC_leastPrimeOf_L2
    rw [pk_mul, if_pos (by rw [lt_nI (by omega) (by omega)]; omega), e]
section KND
variable {σ : St} {a q c od on : Nat} {rs md nm : Nat → Nat}
def tcb (on : Nat) (rs md : Nat → Nat) (x m k : Nat) : Bool := on.testBit k && tch rs md x m k
def cdb (on : Nat) (rs md : Nat → Nat) (x m k : Nat) : Bool := tcb on rs md x m k && decide (m % md k = 0)
def kdn (c on : Nat) (rs md : Nat → Nat) (x m : Nat) : Nat := if 0 < fb_ct (cdb on rs md x m) c then 0 else if 0 < fb_ct (tcb on rs md x m) c then 2 else 1
theorem kdn_le (c on : Nat) (rs md : Nat → Nat) (x m : Nat) : kdn c on rs md x m ≤ 2 := by
  unfold kdn
  split
  · omega
  · split <;> omega
theorem kind_m (h : MV σ 0 0 c od on rs md nm) (w : WF c od on rs md nm) {x m : Nat} (hx : x < 1073741824) (hm0 : 0 < m) (hm : m < 1073741824) : Mo_kindOf σ (nI x) (nI m) = some (nI (kdn c on rs md x m)) := by
  have hc := w.1
  unfold Mo_kindOf
  have hle := fa_first_le (cdb on rs md x m) c
  have hno := fa_first_no (cdb on rs md x m) c
  have hyes := fa_first_yes (cdb on rs md x m) c
  generalize fa_first (cdb on rs md x m) c = t at hle hno hyes
  have tst : ∀ k, k < c → on.testBit k = true → ∀ z : Int32, Mo_kindOf_L5 (nI x) (nI m) σ z (nI k) = if tch rs md x m k = true then (if m % md k = 0 then some (.inr 0) else some (.inl (1, nI (k + 1)))) else some (.inl (z, nI (k + 1))) := fun k hk hb z => by
    obtain ⟨m1, m2, m3⟩ := w.2.2.2.1 k hk
    have hg0 : 0 < Nat.gcd m (md k) := Nat.gcd_pos_of_pos_right _ (by omega)
    have hg1 : Nat.gcd m (md k) ≤ md k := Nat.gcd_le_right _ (by omega)
    have hl : m % md k < md k := Nat.mod_lt _ (by omega)
    unfold Mo_kindOf_L5
    rw [ix00, chk_true, tn00, h.c0, if_neg (by rw [le_nI (by omega) (by omega)]; omega), isOnM_n h w hk, if_pos hb, bd_s, if_neg (by decide), restOf_n h w hk, bd_s, modulusOf_n h w hk, bd_s, common_n (by omega) (by omega), bd_s, nz_nI hg0 (by omega), chk_true, bd_s, nz_nI (by omega) (by omega), chk_true, rem_nI (by omega) (by omega) (by omega), bnd_x, bnd_x, nI_1]
    have e0 : (jrem (nI x - nI (rs k)) (nI (Nat.gcd m (md k))) = 0) = (((x : Int) - rs k) % ((Nat.gcd m (md k) : Nat) : Int) = 0) := rem0_d hx (by omega) hg0 (by omega)
    by_cases y : ((x : Int) - rs k) % ((Nat.gcd m (md k) : Nat) : Int) = 0
    · rw [if_pos (by rw [e0]; exact y), if_pos (show tch rs md x m k = true from decide_eq_true y)]
      by_cases y2 : m % md k = 0
      · rw [if_pos (by rw [y2]; rfl), if_pos y2]
      · rw [if_neg (by rw [show (0 : Int32) = nI 0 from rfl, eq_nI (by omega) (by omega)]; exact y2), if_neg y2]
    · rw [if_neg (by rw [e0]; exact y), if_neg (show ¬ tch rs md x m k = true from fun z => y (of_decide_eq_true z))]
  have key := iter_for (body := fun u : (Int32 × Int32) => Mo_kindOf_L5 (nI x) (nI m) σ u.1 u.2) (fun k => ((if 0 < fb_ct (tcb on rs md x m) k then 1 else 0), nI k)) (lo := 0) (hi := t) (e := nI (kdn c on rs md x m)) (n := FUEL) (Nat.zero_le _) (fuel (by omega)) ?_ ?_
  · exact key
  · intro k _ hk
    show Mo_kindOf_L5 (nI x) (nI m) σ (if 0 < fb_ct (tcb on rs md x m) k then 1 else 0) (nI k) = some (.inl ((if 0 < fb_ct (tcb on rs md x m) (k + 1) then 1 else 0), nI (k + 1)))
    have hkc : k < c := by omega
    have hn := hno k hk
    rw [fb_ct_succ]
    by_cases hb : on.testBit k = true
    · rw [tst k hkc hb]
      by_cases ht : tch rs md x m k = true
      · have htc : tcb on rs md x m k = true := by unfold tcb; rw [hb, ht]; rfl
        have hm2 : ¬ m % md k = 0 := fun y => by
          unfold cdb at hn
          rw [htc, decide_eq_true y] at hn
          exact absurd hn (by decide)
        rw [if_pos ht, if_neg hm2, if_pos htc, if_pos (show 0 < fb_ct (tcb on rs md x m) k + 1 by omega)]
      · have htc : ¬ tcb on rs md x m k = true := by unfold tcb; simp [ht]
        rw [if_neg ht, if_neg htc]
        rfl
    · have htc : ¬ tcb on rs md x m k = true := by unfold tcb; simp [hb]
      unfold Mo_kindOf_L5
      rw [ix00, chk_true, tn00, h.c0, if_neg (by rw [le_nI (by omega) (by omega)]; omega), isOnM_n h w hkc, if_neg hb, bd_s, if_pos rfl, bnd_x, nI_1, if_neg htc]
      rfl
  · show Mo_kindOf_L5 (nI x) (nI m) σ (if 0 < fb_ct (tcb on rs md x m) t then 1 else 0) (nI t) = _
    unfold kdn
    by_cases y : t < c
    · have hy := hyes y
      have hcd : 0 < fb_ct (cdb on rs md x m) c := fb_ct_pos.mpr ⟨t, y, hy⟩
      unfold cdb at hy
      rw [Bool.and_eq_true] at hy
      have h1 := hy.1
      unfold tcb at h1
      rw [Bool.and_eq_true] at h1
      rw [tst t y h1.1, if_pos h1.2, if_pos (of_decide_eq_true hy.2), if_pos hcd]
      rfl
    · have et : t = c := by omega
      subst et
      have hcd : ¬ 0 < fb_ct (cdb on rs md x m) t := fun z => by
        obtain ⟨k, k1, k2⟩ := fb_ct_pos.mp z
        rw [hno k k1] at k2
        exact absurd k2 (by decide)
      unfold Mo_kindOf_L5
      rw [ix00, chk_true, tn00, h.c0, if_pos (by rw [le_nI (by omega) (by omega)]; omega), if_neg hcd]
      by_cases z : 0 < fb_ct (tcb on rs md x m) t
      · rw [if_pos z, if_neg (by decide), if_pos z]; rfl
      · rw [if_neg z, if_pos rfl, if_neg z]; rfl
theorem anyMod_n (h : CV σ a c od on rs md nm) (w : WF c od on rs md nm) {s m : Nat} (hs : s < 2147483648) (hm : m < 1073741824) : Cl_anyModulusDivides σ a (nI s) (nI m) = some (if 0 < fb_ct (fun k => s.testBit k && decide (m % md k = 0)) c then 1 else 0) := by
  have hc := w.1
  unfold Cl_anyModulusDivides
  have hle := fa_first_le (fun k => s.testBit k && decide (m % md k = 0)) c
  have hno := fa_first_no (fun k => s.testBit k && decide (m % md k = 0)) c
  have hyes := fa_first_yes (fun k => s.testBit k && decide (m % md k = 0)) c
  generalize fa_first (fun k => s.testBit k && decide (m % md k = 0)) c = t at hle hno hyes
  refine iter_for (body := fun u : Int32 => Cl_anyModulusDivides_L2 a (nI s) (nI m) σ u) (fun k => nI k) (lo := 0) (hi := t) (n := FUEL) (Nat.zero_le _) (fuel (by omega)) ?_ ?_
  · intro k _ hk
    show Cl_anyModulusDivides_L2 a (nI s) (nI m) σ (nI k) = some (.inl (nI (k + 1)))
    have hkc : k < c := by omega
    obtain ⟨m1, m2, m3⟩ := w.2.2.2.1 k hkc
    have hl : m % md k < md k := Nat.mod_lt _ (by omega)
    have hn := hno k hk
    unfold Cl_anyModulusDivides_L2
    rw [h.1, if_neg (by rw [le_nI (by omega) (by omega)]; omega), isIn_b hs (by omega), bd_s]
    by_cases hb : s.testBit k = true
    · have hm2 : ¬ m % md k = 0 := fun y => by
        have hn' : (s.testBit k && decide (m % md k = 0)) = false := hn
        rw [hb, decide_eq_true y] at hn'
        exact absurd hn' (by decide)
      rw [if_pos hb, if_neg (by decide), ix_nI (by omega) (by omega), chk_true, tn_nI (by omega), h.2.2.2.2.1 k hkc, leftBy_n (by omega) (by omega) (by omega), bd_s, show (0 : Int32) = nI 0 from rfl, if_neg (by rw [eq_nI (by omega) (by omega)]; exact hm2), bnd_x, nI_1]
    · rw [if_neg hb, if_pos rfl, bnd_x, nI_1]
  · show Cl_anyModulusDivides_L2 a (nI s) (nI m) σ (nI t) = _
    unfold Cl_anyModulusDivides_L2
    by_cases y : t < c
    · obtain ⟨m1, m2, m3⟩ := w.2.2.2.1 t y
      have hy : (s.testBit t && decide (m % md t = 0)) = true := hyes y
      have hcd : 0 < fb_ct (fun k => s.testBit k && decide (m % md k = 0)) c := fb_ct_pos.mpr ⟨t, y, hy⟩
      rw [Bool.and_eq_true] at hy
      rw [h.1, if_neg (by rw [le_nI (by omega) (by omega)]; omega), isIn_b hs (by omega), if_pos hy.1, bd_s, if_neg (by decide), ix_nI (by omega) (by omega), chk_true, tn_nI (by omega), h.2.2.2.2.1 t y, leftBy_n (by omega) (by omega) (by omega), bd_s, of_decide_eq_true hy.2, if_pos (show nI 0 = 0 from rfl), if_pos hcd]
    · have et : t = c := by omega
      subst et
      have hcd : ¬ 0 < fb_ct (fun k => s.testBit k && decide (m % md k = 0)) t := fun z => by
        obtain ⟨k, k1, k2⟩ := fb_ct_pos.mp z
        have hn' := hno k k1
        rw [hn'] at k2
        exact absurd k2 (by decide)
      rw [h.1, if_pos (by rw [le_nI (by omega) (by omega)]; omega), if_neg hcd]
/-- the class's kind, out of a set that holds all that touch -/
theorem tset_eq {s x m : Nat} (h1 : ∀ k, k < c → s.testBit k = true → on.testBit k = true) (h2 : ∀ k, k < c → tcb on rs md x m k = true → s.testBit k = true) : bset (fun j => s.testBit j && tch rs md x m j) c = bset (tcb on rs md x m) c := by
  refine bset_cong (fun k hk => ?_)
  show (s.testBit k && tch rs md x m k) = tcb on rs md x m k
  cases e : tcb on rs md x m k with
  | true =>
    have := h2 k hk e
    unfold tcb at e
    rw [Bool.and_eq_true] at e
    rw [this, e.2]
    rfl
  | false =>
    cases e2 : s.testBit k with
    | false => rfl
    | true =>
      have := h1 k hk e2
      unfold tcb at e
      rw [this] at e
      exact e
theorem tset_0 {x m : Nat} : (bset (tcb on rs md x m) c = 0) ↔ ¬ 0 < fb_ct (tcb on rs md x m) c := by
  constructor
  · intro e z
    obtain ⟨k, k1, k2⟩ := fb_ct_pos.mp z
    have := bset_bit (tcb on rs md x m) c k
    rw [e, Nat.zero_testBit, decide_eq_true k1, k2] at this
    exact absurd this (by decide)
  · intro z
    apply Nat.eq_of_testBit_eq
    intro i
    rw [bset_bit, Nat.zero_testBit]
    by_cases hi : i < c
    · cases e : tcb on rs md x m i with
      | false => rw [Bool.and_false]
      | true => exact absurd (fb_ct_pos.mpr ⟨i, hi, e⟩) z
    · rw [decide_eq_false hi, Bool.false_and]
theorem cset_eq {x m : Nat} : fb_ct (fun k => (bset (tcb on rs md x m) c).testBit k && decide (m % md k = 0)) c = fb_ct (cdb on rs md x m) c := fb_ct_cong (fun k hk => by
  show ((bset (tcb on rs md x m) c).testBit k && decide (m % md k = 0)) = cdb on rs md x m k
  rw [bset_bit, decide_eq_true hk, Bool.true_and]
  rfl)
end KND
