/-! numbers: the small functions -/
theorem chk_true {α : Type} (k : Option α) : chk true k = k := rfl
theorem add1_nI (a : Nat) : nI a + nI 1 = nI (a + 1) := nI_add a 1
theorem neg1_ne {a : Nat} (h : a < 2147483648) : (nI a = -nI 1) = False := by
  refine eq_false (fun e => ?_)
  have h1 := congrArg Int32.toInt e
  rw [nI_toInt h] at h1
  have h2 : (-nI 1).toInt = -1 := by decide
  omega
theorem ne_neg1 {a : Nat} (h : a < 2147483648) : (-nI 1 = nI a) = False := by
  refine eq_false (fun e => ?_)
  have := e.symm
  rw [neg1_ne h] at this
  exact this
theorem i32_rng (x : Int32) : -2147483648 ≤ x.toInt ∧ x.toInt < 2147483648 := fb_rng x
theorem jdiv_toInt (x : Int32) {m : Nat} (h0 : 0 < m) (hm : m < 2147483648) : (x / nI m).toInt = x.toInt.tdiv m := by
  have hr := i32_rng x
  rw [Int32.toInt_div, nI_toInt hm]
  have h1 : (x.toInt.tdiv (m : Int)).natAbs ≤ x.toInt.natAbs := by
    rw [Int.natAbs_tdiv]
    exact Nat.div_le_self _ _
  by_cases hm1 : m = 1
  · subst hm1
    rw [show ((1 : Nat) : Int) = 1 from rfl, Int.tdiv_one]
    exact fb_bmod (by omega) (by omega)
  · have h2 : (x.toInt.tdiv (m : Int)).natAbs ≤ 1073741824 := by
      rw [Int.natAbs_tdiv]
      have : ((m : Int)).natAbs = m := rfl
      rw [this]
      have h3 : x.toInt.natAbs ≤ 2147483648 := by omega
      calc x.toInt.natAbs / m ≤ x.toInt.natAbs / 2 := Nat.div_le_div_left (by omega) (by omega)
        _ ≤ 1073741824 := by omega
    exact fb_bmod (by omega) (by omega)
theorem jrem_toInt (x : Int32) {m : Nat} (h0 : 0 < m) (hm : m < 2147483648) : (jrem x (nI m)).toInt = x.toInt.tmod m := by
  have hr := i32_rng x
  have hd := jdiv_toInt x h0 hm
  have e := Int.tmod_def x.toInt (m : Int)
  have hb : (x.toInt.tmod (m : Int)).natAbs < m := by
    rw [Int.natAbs_tmod]
    exact Nat.mod_lt _ h0
  have hle : (x.toInt.tmod (m : Int)).natAbs ≤ x.toInt.natAbs := by
    rw [Int.natAbs_tmod]
    exact Nat.mod_le _ _
  have hs1 : 0 ≤ x.toInt → 0 ≤ x.toInt.tmod m := fun q => Int.tmod_nonneg (m : Int) q
  have hs2 : x.toInt ≤ 0 → x.toInt.tmod m ≤ 0 := fun q => by
    have := Int.tmod_nonneg (m : Int) (show 0 ≤ -x.toInt by omega)
    rw [Int.neg_tmod] at this
    omega
  unfold jrem
  have hm2 : (x / nI m).toInt * (nI m).toInt = x.toInt - x.toInt.tmod m := by
    rw [hd, nI_toInt hm, Int.mul_comm]; omega
  have hmul : (x / nI m * nI m).toInt = x.toInt - x.toInt.tmod m := by
    rw [fb_mulI (by rw [hm2]; omega) (by rw [hm2]; omega), hm2]
  rw [fb_subI (by rw [hmul]; omega) (by rw [hmul]; omega), hmul]
  omega
/-- leftBy: what is left, from 0 on -/
theorem leftBy_g (x : Int32) {m : Nat} (h0 : 0 < m) (hm : m < 1073741824) : RC_leftBy x (nI m) = some (nI (x.toInt % (m : Int)).toNat) := by
  unfold RC_leftBy
  have hr := i32_rng x
  have ht := jrem_toInt x h0 (show m < 2147483648 by omega)
  have hb : (x.toInt.tmod (m : Int)).natAbs < m := by
    rw [Int.natAbs_tmod]
    exact Nat.mod_lt _ h0
  have h1 : (1 : Int32) ≤ nI m := by
    have : (1 : Int32) = nI 1 := rfl
    rw [this, le_nI (by omega) (by omega)]; exact h0
  have hem : 0 ≤ x.toInt % (m : Int) := Int.emod_nonneg _ (by omega)
  have hel : x.toInt % (m : Int) < m := Int.emod_lt_of_pos _ (by omega)
  rw [if_pos h1, nz_nI h0 (by omega), chk_true, bnd_x]
  by_cases hn : (0 : Int32) ≤ jrem x (nI m)
  · rw [if_pos hn]
    congr 1
    rw [Int32.le_iff_toInt_le, ht] at hn
    have h00 : (0 : Int32).toInt = 0 := rfl
    apply Int32.toInt_inj.mp
    rw [ht, nI_toInt (by omega)]
    have : x.toInt % (m : Int) = x.toInt.tmod m := by
      have e2 := Int.tmod_add_mul_tdiv x.toInt m
      exact (Int.emod_eq_iff (by omega)).mpr ⟨by omega, by omega, ⟨-(x.toInt.tdiv m), by rw [Int.mul_neg]; omega⟩⟩
    omega
  · rw [if_neg hn]
    congr 1
    rw [Int32.le_iff_toInt_le, ht] at hn
    have h00 : (0 : Int32).toInt = 0 := rfl
    apply Int32.toInt_inj.mp
    rw [fb_addI (by rw [ht, nI_toInt (by omega)]; omega) (by rw [ht, nI_toInt (by omega)]; omega), ht, nI_toInt (by omega), nI_toInt (by omega)]
    have : x.toInt % (m : Int) = x.toInt.tmod m + m := by
      have e2 := Int.tmod_add_mul_tdiv x.toInt m
      exact (Int.emod_eq_iff (by omega)).mpr ⟨by omega, by omega, ⟨1 - x.toInt.tdiv m, by rw [Int.mul_sub]; omega⟩⟩
    omega
theorem leftBy_n {a m : Nat} (h0 : 0 < m) (hm : m < 1073741824) (ha : a < 2147483648) : RC_leftBy (nI a) (nI m) = some (nI (a % m)) := by
  rw [leftBy_g _ h0 hm, nI_toInt ha]
  congr 2
theorem leftBy_d {a b m : Nat} (h0 : 0 < m) (hm : m < 1073741824) (ha : a < 1073741824) (hb : b < 1073741824) : RC_leftBy (nI a - nI b) (nI m) = some (nI (((a : Int) - b) % (m : Int)).toNat) := by
  rw [leftBy_g _ h0 hm, pk_sub_toInt ha hb]
theorem isIn_n {s k : Nat} (hs : s < 2147483648) (hk : k < 32) : RC_isIn (nI s) (nI k) = some (if s.testBit k then nI 1 else nI 0) := by
  unfold RC_isIn
  rw [show (31 : Int32) = nI 31 from rfl, show (1 : Int32) = nI 1 from rfl, show (0 : Int32) = nI 0 from rfl, shr_nI hk hs, and_nI, Nat.and_one_is_mod, Nat.testBit_eq_decide_div_mod_eq]
  by_cases h : s / 2 ^ k % 2 = 1
  · rw [if_pos (by rw [h]), if_pos (by simp [h])]
  · rw [if_neg (by rw [eq_nI (by omega) (by omega)]; exact h), if_neg (by simp [h])]
theorem isInM_n {s k : Nat} (hs : s < 2147483648) (hk : k < 32) : Mo_isIn (nI s) (nI k) = some (if s.testBit k then nI 1 else nI 0) := isIn_n hs hk
theorem partBy_n {a m : Nat} (h0 : 0 < m) (hm : m < 2147483648) (ha : a < 2147483648) : RC_partBy_ (nI a) (nI m) = some (nI (a / m)) := by
  unfold RC_partBy_
  rw [show (1 : Int32) = nI 1 from rfl, if_pos (by rw [le_nI (by omega) hm]; exact h0), nz_nI h0 hm, chk_true, div_nI ha h0 hm]
theorem partByL_n {a m : Nat} (h0 : 0 < m) (hm : m < 9223372036854775808) (ha : a < 9223372036854775808) : RC_partBy (lN a) (lN m) = some (lN (a / m)) := by
  unfold RC_partBy
  rw [show (1 : Int64) = lN 1 from rfl, if_pos ((pk_lLE (by omega) hm).mpr h0), nz_lN h0 hm, chk_true, pk_lDiv ha h0 hm]
/-! the greatest common divisor: Euclid's steps are few -/
def gfib : Nat → Nat
  | 0 => 1
  | 1 => 2
  | n + 2 => gfib (n + 1) + gfib n
theorem gcd_loop : ∀ n, (∀ a b i f, b < gfib n → i + n < 100 → n < f → a < 9223372036854775808 → b < 9223372036854775808 → iter (fun s : (Int64 × Int64 × Int32) => RC_commonDivisor_L9 s.1 s.2.1 s.2.2) f (lN a, lN b, nI i) = some (lN (Nat.gcd a b))) ∧ (∀ a b i f, b < gfib (n + 1) → i + (n + 1) < 100 → n + 1 < f → a < 9223372036854775808 → b < 9223372036854775808 → iter (fun s : (Int64 × Int64 × Int32) => RC_commonDivisor_L9 s.1 s.2.1 s.2.2) f (lN a, lN b, nI i) = some (lN (Nat.gcd a b))) := by
  have h0 : ∀ a i f, i < 100 → 0 < f → iter (fun s : (Int64 × Int64 × Int32) => RC_commonDivisor_L9 s.1 s.2.1 s.2.2) f (lN a, lN 0, nI i) = some (lN (Nat.gcd a 0)) := by
    intro a i f hi hf
    obtain ⟨f', rfl⟩ : ∃ f', f = f' + 1 := ⟨f - 1, by omega⟩
    refine iter_exit ?_
    show RC_commonDivisor_L9 (lN a) (lN 0) (nI i) = _
    unfold RC_commonDivisor_L9
    rw [show (100 : Int32) = nI 100 from rfl, if_neg (by rw [le_nI (by omega) (by omega)]; omega), show (0 : Int64) = lN 0 from rfl, if_pos (by rw [pk_lLE (by omega) (by omega)]; omega), Nat.gcd_zero_right]
  have h1 : ∀ a b i f, 0 < b → i < 100 → a < 9223372036854775808 → b < 9223372036854775808 → iter (fun s : (Int64 × Int64 × Int32) => RC_commonDivisor_L9 s.1 s.2.1 s.2.2) (f + 1) (lN a, lN b, nI i) = iter (fun s : (Int64 × Int64 × Int32) => RC_commonDivisor_L9 s.1 s.2.1 s.2.2) f (lN b, lN (a % b), nI (i + 1)) := by
    intro a b i f hb hi ha hb2
    refine iter_step ?_
    show RC_commonDivisor_L9 (lN a) (lN b) (nI i) = _
    unfold RC_commonDivisor_L9
    rw [show (100 : Int32) = nI 100 from rfl, if_neg (by rw [le_nI (by omega) (by omega)]; omega), show (0 : Int64) = lN 0 from rfl, if_neg (by rw [pk_lLE (by omega) (by omega)]; omega), nz_lN hb hb2, chk_true, bnd_x, bnd_x]
    have : jreml (lN a) (lN b) = lN (a % b) := pk_lRem ha hb hb2
    rw [this, nI_1]
  have hg : ∀ a b : Nat, Nat.gcd b (a % b) = Nat.gcd a b := fun a b => by rw [Nat.gcd_comm a b, Nat.gcd_rec b a, Nat.gcd_comm]
  intro n
  induction n with
  | zero =>
    refine ⟨fun a b i f hb hi hf ha hb2 => ?_, fun a b i f hb hi hf ha hb2 => ?_⟩
    · have : b = 0 := by have : gfib 0 = 1 := rfl; omega
      subst this
      exact h0 a i f (by omega) (by omega)
    · by_cases hz : b = 0
      · subst hz; exact h0 a i f (by omega) (by omega)
      · have : b = 1 := by have : gfib (0 + 1) = 2 := rfl; omega
        subst this
        obtain ⟨f', rfl⟩ : ∃ f', f = f' + 1 := ⟨f - 1, by omega⟩
        rw [h1 a 1 i f' (by omega) (by omega) ha hb2, Nat.mod_one, h0 1 (i + 1) f' (by omega) (by omega), Nat.gcd_zero_right, Nat.gcd_one_right]
  | succ n ih =>
    refine ⟨ih.2, fun a b i f hb hi hf ha hb2 => ?_⟩
    by_cases hz : b = 0
    · subst hz; exact h0 a i f (by omega) (by omega)
    · obtain ⟨f', rfl⟩ : ∃ f', f = f' + 1 := ⟨f - 1, by omega⟩
      have hr : a % b < b := Nat.mod_lt _ (by omega)
      rw [h1 a b i f' (by omega) (by omega) ha hb2, ← hg a b]
      by_cases hq : a % b < gfib (n + 1)
      · exact ih.2 b (a % b) (i + 1) f' hq (by omega) (by omega) hb2 (by omega)
      · by_cases hz2 : a % b = 0
        · rw [hz2]; exact h0 b (i + 1) f' (by omega) (by omega)
        · obtain ⟨f2, rfl⟩ : ∃ f2, f' = f2 + 1 := ⟨f' - 1, by omega⟩
          rw [h1 b (a % b) (i + 1) f2 (by omega) (by omega) hb2 (by omega), ← hg b (a % b)]
          have hlt : b % (a % b) < gfib n := by
            have e1 : b % (a % b) ≤ b - a % b := by
              rw [Nat.mod_eq_sub_mod (by omega)]
              exact Nat.mod_le _ _
            have e2 : gfib (n + 2) = gfib (n + 1) + gfib n := rfl
            have : b < gfib (n + 2) := hb
            omega
          exact ih.1 (a % b) (b % (a % b)) (i + 1 + 1) f2 hlt (by omega) (by omega) (by omega) (by have := Nat.mod_lt b (show 0 < a % b by omega); omega)
theorem gcdL_n {a b : Nat} (ha : a < 9223372036854775808) (hb : b < 9223372036854775808) : RC_commonDivisor (lN a) (lN b) = some (lN (Nat.gcd a b)) := by
  unfold RC_commonDivisor
  have := (gcd_loop 91).1 a b 0 FUEL (Nat.lt_of_lt_of_le hb (by decide +kernel)) (by omega) (fuel (by omega)) ha hb
  rw [show (0 : Int32) = nI 0 from rfl, this]
  rfl
theorem gcdI_n {a b : Nat} (ha : a < 2147483648) (hb : b < 2147483648) : RC_commonDivisor (nI a).toInt64 (nI b).toInt64 = some (lN (Nat.gcd a b)) := by
  rw [nI_l ha, nI_l hb]
  exact gcdL_n (by omega) (by omega)
/-- the reference's Euclid on ints -/
theorem common_n {a b : Nat} (ha : a < 2147483648) (hb : b < 2147483648) : Mo_common (nI a) (nI b) = some (nI (Nat.gcd a b)) := by
  unfold Mo_common
  have hg : ∀ a b : Nat, Nat.gcd b (a % b) = Nat.gcd a b := fun a b => by rw [Nat.gcd_comm a b, Nat.gcd_rec b a, Nat.gcd_comm]
  have key : ∀ n a b f, b ≤ n → n < f → a < 2147483648 → b < 2147483648 → iter (fun s : (Int32 × Int32) => Mo_common_L4 s.1 s.2) f (nI a, nI b) = some (nI (Nat.gcd a b)) := by
    intro n
    induction n with
    | zero =>
      intro a b f hb hf ha hb2
      have : b = 0 := by omega
      subst this
      obtain ⟨f', rfl⟩ : ∃ f', f = f' + 1 := ⟨f - 1, by omega⟩
      refine (iter_exit ?_).trans (by rw [Nat.gcd_zero_right])
      show Mo_common_L4 (nI a) (nI 0) = _
      unfold Mo_common_L4
      rw [show (0 : Int32) = nI 0 from rfl, if_pos rfl]
    | succ n ih =>
      intro a b f hb hf ha hb2
      obtain ⟨f', rfl⟩ : ∃ f', f = f' + 1 := ⟨f - 1, by omega⟩
      by_cases hz : b = 0
      · subst hz
        refine (iter_exit ?_).trans (by rw [Nat.gcd_zero_right])
        show Mo_common_L4 (nI a) (nI 0) = _
        unfold Mo_common_L4
        rw [show (0 : Int32) = nI 0 from rfl, if_pos rfl]
      · have hr : a % b < b := Nat.mod_lt _ (by omega)
        have hst : iter (fun s : (Int32 × Int32) => Mo_common_L4 s.1 s.2) (f' + 1) (nI a, nI b) = iter (fun s : (Int32 × Int32) => Mo_common_L4 s.1 s.2) f' (nI b, nI (a % b)) := by
          refine iter_step ?_
          show Mo_common_L4 (nI a) (nI b) = _
          unfold Mo_common_L4
          rw [show (0 : Int32) = nI 0 from rfl, if_neg (by rw [eq_nI hb2 (by omega)]; exact hz), nz_nI (by omega) hb2, chk_true, bnd_x, rem_nI ha (by omega) hb2]
        rw [hst, ← hg a b]
        exact ih b (a % b) f' (by omega) (by omega) hb2 (by omega)
  rw [key b a b FUEL (Nat.le_refl _) (fuel (by omega)) ha hb]
  rfl
