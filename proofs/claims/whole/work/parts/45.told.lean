/-! touching, couples, unlike, told -/
theorem ct12_bset {p : Nat → Bool} {c : Nat} (hc : c ≤ 12) : ct12 (bset p c) = fb_ct p c := by
  unfold ct12
  rw [fb_ct_cong (q := fun j => p j && decide (j < c)) (fun j _ => by rw [bset_bit, Bool.and_comm]), ct_cut hc]
def tch (rs md : Nat → Nat) (x m j : Nat) : Bool := decide (((x : Int) - rs j) % ((Nat.gcd m (md j) : Nat) : Int) = 0)
theorem rem0_d {a b g : Nat} (ha : a < 1073741824) (hb : b < 1073741824) (h0 : 0 < g) (hg : g < 2147483648) : (jrem (nI a - nI b) (nI g) = 0) = (((a : Int) - b) % (g : Int) = 0) := by
  have h1 := jrem_toInt (nI a - nI b) h0 hg
  rw [pk_sub_toInt ha hb] at h1
  apply propext
  rw [← Int.dvd_iff_emod_eq_zero, Int.dvd_iff_tmod_eq_zero, ← h1]
  exact ⟨fun e => by rw [e]; rfl, fun e => Int32.toInt_inj.mp e⟩
section TCH
variable {σ : St} {a q c od on : Nat} {rs md nm : Nat → Nat}
theorem touches_n (h : CV σ a c od on rs md nm) (w : WF c od on rs md nm) {k x m : Nat} (hk : k < c) (hx : x < 1073741824) (hm0 : 0 < m) (hm : m < 1073741824) : Cl_touches σ a (nI k) (nI x) (nI m) = some (if tch rs md x m k = true then 1 else 0) := by
  have hc := w.1
  obtain ⟨m1, m2, m3⟩ := w.2.2.2.1 k hk
  have hg0 : 0 < Nat.gcd m (md k) := Nat.gcd_pos_of_pos_right _ (by omega)
  have hg1 : Nat.gcd m (md k) ≤ md k := Nat.gcd_le_right _ (by omega)
  have z0 : 0 ≤ ((x : Int) - rs k) % ((Nat.gcd m (md k) : Nat) : Int) := Int.emod_nonneg _ (by omega)
  have z1 : ((x : Int) - rs k) % ((Nat.gcd m (md k) : Nat) : Int) < Nat.gcd m (md k) := Int.emod_lt_of_pos _ (by omega)
  unfold Cl_touches
  rw [ix_nI (by omega) (by omega), chk_true, chk_true, tn_nI (by omega), h.2.2.2.2.1 k hk, gcdI_n (by omega) (by omega), bd_s, h.2.2.2.1 k hk, lN_i, leftBy_d hg0 (by omega) hx (by omega), bd_s]
  unfold tch
  by_cases e : ((x : Int) - rs k) % ((Nat.gcd m (md k) : Nat) : Int) = 0
  · rw [e, if_pos (show nI (0 : Int).toNat = 0 from rfl), if_pos (by decide)]
  · rw [show (0 : Int32) = nI 0 from rfl, if_neg (by rw [eq_nI (by omega) (by omega)]; omega), if_neg (by simpa using e)]
theorem touching_n (h : CV σ a c od on rs md nm) (w : WF c od on rs md nm) {s x m : Nat} (hs : s < 2147483648) (hx : x < 1073741824) (hm0 : 0 < m) (hm : m < 1073741824) : Cl_touching σ a (nI s) (nI x) (nI m) = some (nI (bset (fun j => s.testBit j && tch rs md x m j) c)) := by
  unfold Cl_touching
  have hc := w.1
  have key := iter_for (body := fun u : (Int32 × Int32) => Cl_touching_L6 a (nI s) (nI x) (nI m) σ u.1 u.2) (fun k => (nI (bset (fun j => s.testBit j && tch rs md x m j) k), nI k)) (lo := 0) (hi := c) (e := nI (bset (fun j => s.testBit j && tch rs md x m j) c)) (n := FUEL) (Nat.zero_le _) (fuel (by omega)) ?_ ?_
  · exact congrArg (fun o => bd o (fun v => some v)) key
  · intro k _ hk
    show Cl_touching_L6 a (nI s) (nI x) (nI m) σ (nI (bset (fun j => s.testBit j && tch rs md x m j) k)) (nI k) = some (.inl (nI (bset (fun j => s.testBit j && tch rs md x m j) (k + 1)), nI (k + 1)))
    unfold Cl_touching_L6
    rw [h.1, if_neg (by rw [le_nI (by omega) (by omega)]; omega), isIn_b hs (by omega), bd_s, bset_succ]
    by_cases hb : s.testBit k = true
    · rw [if_pos hb, if_neg (by decide), touches_n h w hk hx hm0 hm, bd_s]
      by_cases ht : tch rs md x m k = true
      · rw [if_pos ht, if_neg (by decide), bnd_x, bnd_x, shl1 (by omega), or_nI, bset_or, nI_1, if_pos (by simp [hb, ht])]
      · rw [if_neg ht, if_pos rfl, bnd_x, nI_1, if_neg (by simp [ht])]
    · rw [if_neg hb, if_pos rfl, bnd_x, nI_1, if_neg (by simp [hb])]
  · show Cl_touching_L6 a (nI s) (nI x) (nI m) σ (nI (bset (fun j => s.testBit j && tch rs md x m j) c)) (nI c) = _
    unfold Cl_touching_L6
    rw [h.1, if_pos (by rw [le_nI (by omega) (by omega)]; omega)]
theorem doMeet_n (h : MV σ 0 q c od on rs md nm) (w : WF c od on rs md nm) {k o : Nat} (hk : k < c) (ho : o < c) : Mo_doMeet σ (nI k) (nI o) = some (if tch rs md (rs k) (md k) o = true then 1 else 0) := by
  have hc := w.1
  obtain ⟨m1, m2, m3⟩ := w.2.2.2.1 k hk
  obtain ⟨d1, d2, d3⟩ := w.2.2.2.1 o ho
  have hg0 : 0 < Nat.gcd (md k) (md o) := Nat.gcd_pos_of_pos_right _ (by omega)
  have hg1 : Nat.gcd (md k) (md o) ≤ md o := Nat.gcd_le_right _ (by omega)
  unfold Mo_doMeet
  rw [restOf_n h w hk, bd_s, restOf_n h w ho, bd_s, modulusOf_n h w hk, bd_s, modulusOf_n h w ho, bd_s, common_n (by omega) (by omega), bd_s, nz_nI hg0 (by omega), chk_true]
  unfold tch
  by_cases e : ((rs k : Int) - rs o) % ((Nat.gcd (md k) (md o) : Nat) : Int) = 0
  · rw [if_pos (by rw [rem0_d (by omega) (by omega) hg0 (by omega)]; exact e), if_pos (by simpa using e)]
  · rw [if_neg (by rw [rem0_d (by omega) (by omega) hg0 (by omega)]; exact e), if_neg (by simpa using e)]
def cpl (on : Nat) (rs md : Nat → Nat) (k : Nat) : Nat := if on.testBit k then fb_ct (fun o => on.testBit o && tch rs md (rs k) (md k) o) k else 0
theorem couples_c (h : CV σ a c od on rs md nm) (w : WF c od on rs md nm) : Cl_couples σ a = some (nI (fb_sm (cpl on rs md) c)) := by
  unfold Cl_couples
  have hc := w.1
  have ho := w.on4
  have key := iter_for (body := fun u : (Int32 × Int32) => Cl_couples_L4 a σ u.1 u.2) (fun k => (nI (fb_sm (cpl on rs md) k), nI k)) (lo := 0) (hi := c) (e := nI (fb_sm (cpl on rs md) c)) (n := FUEL) (Nat.zero_le _) (fuel (by omega)) ?_ ?_
  · exact congrArg (fun o => bd o (fun v => some v)) key
  · intro k _ hk
    show Cl_couples_L4 a σ (nI (fb_sm (cpl on rs md) k)) (nI k) = some (.inl (nI (fb_sm (cpl on rs md) (k + 1)), nI (k + 1)))
    obtain ⟨m1, m2, m3⟩ := w.2.2.2.1 k hk
    have hp1 : 1 ≤ 2 ^ k := Nat.one_le_two_pow
    have hle : on &&& (2 ^ k - 1) ≤ on := Nat.and_le_left
    unfold Cl_couples_L4
    rw [h.1, if_neg (by rw [le_nI (by omega) (by omega)]; omega), isOn_n h w (by omega), bd_s, fb_sm_succ]
    by_cases hb : on.testBit k = true
    · have e1 : ct12 (bset (fun j => (on &&& (2 ^ k - 1)).testBit j && tch rs md (rs k) (md k) j) c) = cpl on rs md k := by
        rw [ct12_bset hc, fb_ct_cong (q := fun j => (on.testBit j && tch rs md (rs k) (md k) j) && decide (j < k)) (fun j _ => by
          show ((on &&& (2 ^ k - 1)).testBit j && tch rs md (rs k) (md k) j) = ((on.testBit j && tch rs md (rs k) (md k) j) && decide (j < k))
          rw [Nat.testBit_and, tb_ones]
          cases on.testBit j <;> cases tch rs md (rs k) (md k) j <;> cases decide (j < k) <;> rfl), ct_cut (by omega)]
        unfold cpl
        rw [if_pos hb]
      rw [if_pos hb, if_neg (by decide), h.2.1, shl1 (by omega), show nI (2 ^ k) - 1 = nI (2 ^ k - 1) from sub_nI (a := 2 ^ k) (b := 1) hp1, and_nI, bnd_x, ix_nI (by omega) (by omega), chk_true, chk_true, tn_nI (by omega), h.2.2.2.1 k hk, h.2.2.2.2.1 k hk, touching_n h w (by omega) (by omega) (by omega) (by omega), bd_s, bcI_n _ (bset_4 _ hc), bd_s, bnd_x, bnd_x, nI_1, e1, nI_add]
    · rw [if_neg hb, if_pos rfl, bnd_x, nI_1, show cpl on rs md k = 0 from if_neg hb]
      rfl
  · show Cl_couples_L4 a σ (nI (fb_sm (cpl on rs md) c)) (nI c) = _
    unfold Cl_couples_L4
    rw [h.1, if_pos (by rw [le_nI (by omega) (by omega)]; omega)]
theorem add0 (x : Int32) : x + 0 = x := Int32.add_zero x
theorem couples_m (h : MV σ 0 q c od on rs md nm) (w : WF c od on rs md nm) : Mo_couples σ = some (nI (fb_sm (cpl on rs md) c)) := by
  unfold Mo_couples
  have hc := w.1
  have key := iter_for (body := fun u : (Int32 × Int32) => Mo_couples_L4 σ u.1 u.2) (fun k => (nI (fb_sm (cpl on rs md) k), nI k)) (lo := 0) (hi := c) (e := nI (fb_sm (cpl on rs md) c)) (n := FUEL) (Nat.zero_le _) (fuel (by omega)) ?_ ?_
  · exact congrArg (fun o => bd o (fun v => some v)) key
  · intro k _ hk
    show Mo_couples_L4 σ (nI (fb_sm (cpl on rs md) k)) (nI k) = some (.inl (nI (fb_sm (cpl on rs md) (k + 1)), nI (k + 1)))
    obtain ⟨B, hB⟩ : ∃ B, B = fb_sm (cpl on rs md) k := ⟨_, rfl⟩
    have inner := iter_for (body := fun u : (Int32 × Int32) => Mo_couples_L16 (nI k) σ u.1 u.2) (fun o => (nI (B + if on.testBit k then fb_ct (fun o => on.testBit o && tch rs md (rs k) (md k) o) o else 0), nI o)) (lo := 0) (hi := k) (e := nI (B + cpl on rs md k)) (n := FUEL) (Nat.zero_le _) (fuel (by omega)) (by
      intro o _ hok
      show Mo_couples_L16 (nI k) σ (nI (B + if on.testBit k then fb_ct (fun o => on.testBit o && tch rs md (rs k) (md k) o) o else 0)) (nI o) = some (.inl (nI (B + if on.testBit k then fb_ct (fun o => on.testBit o && tch rs md (rs k) (md k) o) (o + 1) else 0), nI (o + 1)))
      unfold Mo_couples_L16
      rw [if_neg (by rw [le_nI (by omega) (by omega)]; omega), isOnM_n h w hk, bd_s]
      by_cases hb : on.testBit k = true
      · rw [if_pos hb, if_neg (by decide), isOnM_n h w (by omega), bd_s, if_pos hb, if_pos hb, fb_ct_succ]
        by_cases hb2 : on.testBit o = true
        · rw [if_pos hb2, if_neg (by decide), doMeet_n h w hk (by omega), bd_s]
          by_cases ht : tch rs md (rs k) (md k) o = true
          · rw [if_pos ht, if_neg (by decide), bnd_x, bnd_x, nI_1, nI_1, if_pos (by simp [hb2, ht]), Nat.add_assoc]
          · rw [if_neg ht, if_pos rfl, bnd_x, bnd_x, add0, nI_1, if_neg (by simp [ht])]
            rfl
        · rw [if_neg hb2, if_pos rfl, bnd_x, bnd_x, add0, nI_1, if_neg (by simp [hb2])]
          rfl
      · rw [if_neg hb, if_pos rfl, bnd_x, bnd_x, add0, nI_1, if_neg hb, if_neg hb]) (by
      show Mo_couples_L16 (nI k) σ (nI (B + if on.testBit k then fb_ct (fun o => on.testBit o && tch rs md (rs k) (md k) o) k else 0)) (nI k) = _
      unfold Mo_couples_L16
      rw [if_pos (by rw [le_nI (by omega) (by omega)]; omega)]
      rfl)
    have e0 : (nI (B + if on.testBit k then fb_ct (fun o => on.testBit o && tch rs md (rs k) (md k) o) 0 else 0), nI 0) = (nI B, (0 : Int32)) := by
      have : (if on.testBit k then fb_ct (fun o => on.testBit o && tch rs md (rs k) (md k) o) 0 else 0) = 0 := by split <;> rfl
      rw [this]
      rfl
    rw [e0] at inner
    unfold Mo_couples_L4
    rw [ix00, chk_true, tn00, h.c0, if_neg (by rw [le_nI (by omega) (by omega)]; omega), ← hB, inner, bd_s, bnd_x, nI_1, fb_sm_succ, ← hB]
  · show Mo_couples_L4 σ (nI (fb_sm (cpl on rs md) c)) (nI c) = _
    unfold Mo_couples_L4
    rw [ix00, chk_true, tn00, h.c0, if_pos (by rw [le_nI (by omega) (by omega)]; omega)]
/-! moduli unlike -/
def lkb (on : Nat) (md : Nat → Nat) (k : Nat) : Bool := on.testBit k && (decide (md k ≤ 1) || decide (0 < fb_ct (fun o => on.testBit o && decide (md k = md o)) k))
theorem unlike_c (h : CV σ a c od on rs md nm) (w : WF c od on rs md nm) : Cl_allUnlike σ a = some (if fa_first (lkb on md) c < c then 0 else 1) := by
  unfold Cl_allUnlike
  have hc := w.1
  have hle := fa_first_le (lkb on md) c
  have hno := fa_first_no (lkb on md) c
  have hyes := fa_first_yes (lkb on md) c
  generalize fa_first (lkb on md) c = t at hle hno hyes
  have met_bit : ∀ {x : Int64} {k : Nat}, k < c → (∀ j, j < 64 → (lb x j = true ↔ j = 1 ∨ ∃ o, o < k ∧ on.testBit o = true ∧ md o = j)) → on.testBit k = true → ((x &&& ((1 : Int64) <<< ((nI (md k)).toInt64 &&& 63)) = 0) ↔ lkb on md k = false) := by
    intro x k hk hx hb
    obtain ⟨m1, m2, m3⟩ := w.2.2.2.1 k hk
    have e1 : (x &&& ((1 : Int64) <<< ((nI (md k)).toInt64 &&& 63)) = 0) ↔ lb x (md k) = false := by
      constructor
      · intro e
        have := congrArg (fun z => lb z (md k)) e
        simp only [lb_and, lb_0] at this
        rw [lb_one (by omega) (by omega), decide_eq_true rfl, Bool.and_true] at this
        exact this
      · intro e
        apply lb_ext
        intro j hj
        rw [lb_and, lb_one (by omega) hj, lb_0]
        by_cases q : j = md k
        · rw [q, e, Bool.false_and]
        · rw [decide_eq_false q, Bool.and_false]
    rw [e1]
    have e2 := hx (md k) (by omega)
    unfold lkb
    rw [hb, Bool.true_and]
    constructor
    · intro e
      rw [e] at e2
      have n1 : ¬ (md k = 1 ∨ ∃ o, o < k ∧ on.testBit o = true ∧ md o = md k) := fun q => by
        have := e2.mpr q
        exact absurd this (by decide)
      rw [decide_eq_false (by omega), Bool.false_or]
      apply decide_eq_false
      intro q
      obtain ⟨o, h1, h2⟩ := fb_ct_pos.mp q
      have h3 : on.testBit o = true ∧ md k = md o := by simpa using h2
      exact n1 (Or.inr ⟨o, h1, h3.1, h3.2.symm⟩)
    · intro e
      have n1 : ¬ lb x (md k) = true := fun q => by
        rcases e2.mp q with z | ⟨o, h1, h2, h3⟩
        · rw [z] at e; simp at e
        · have : 0 < fb_ct (fun o => on.testBit o && decide (md k = md o)) k := fb_ct_pos.mpr ⟨o, h1, by simp [h2, h3]⟩
          rw [decide_eq_true this, Bool.or_true] at e
          exact absurd e (by decide)
      simpa using n1
  have key := iter_cnt (body := fun u : (Int64 × Int32) => Cl_allUnlike_L6 a σ u.1 u.2) (fun k u => u.2 = nI k ∧ ∀ j, j < 64 → (lb u.1 j = true ↔ j = 1 ∨ ∃ o, o < k ∧ on.testBit o = true ∧ md o = j)) (fun e => e = if t < c then 0 else 1) (lo := 0) (hi := t) (n := FUEL) (Nat.zero_le _) (fuel (by omega)) ?_ ?_ (s := (2, 0)) ⟨rfl, fun j hj => ?_⟩
  · obtain ⟨e, h1, h2⟩ := key
    rw [h1, h2]
  · rintro k ⟨x, k'⟩ _ hk ⟨rfl, hx⟩
    have hx' : ∀ j, j < 64 → (lb x j = true ↔ j = 1 ∨ ∃ o, o < k ∧ on.testBit o = true ∧ md o = j) := hx
    have hkc : k < c := by omega
    obtain ⟨m1, m2, m3⟩ := w.2.2.2.1 k hkc
    have hn := hno k hk
    by_cases hb : on.testBit k = true
    · refine ⟨(x ||| ((1 : Int64) <<< ((nI (md k)).toInt64 &&& 63)), nI (k + 1)), ?_, rfl, fun j hj => ?_⟩
      · show Cl_allUnlike_L6 a σ x (nI k) = _
        unfold Cl_allUnlike_L6
        rw [h.1, if_neg (by rw [le_nI (by omega) (by omega)]; omega), isOn_n h w (by omega), if_pos hb, bd_s, if_neg (by decide), ix_nI (by omega) (by omega), chk_true, tn_nI (by omega), h.2.2.2.2.1 k hkc, bnd_x, if_pos ((met_bit hkc hx' hb).mpr hn), bnd_x, bnd_x, nI_1]
      · show lb (x ||| ((1 : Int64) <<< ((nI (md k)).toInt64 &&& 63))) j = true ↔ _
        rw [lb_or, lb_one (by omega) hj, Bool.or_eq_true, hx' j hj, decide_eq_true_iff]
        constructor
        · rintro ((z | ⟨o, h1, h2, h3⟩) | z)
          · exact Or.inl z
          · exact Or.inr ⟨o, by omega, h2, h3⟩
          · exact Or.inr ⟨k, by omega, hb, z.symm⟩
        · rintro (z | ⟨o, h1, h2, h3⟩)
          · exact Or.inl (Or.inl z)
          · by_cases e : o = k
            · rw [e] at h3; exact Or.inr h3.symm
            · exact Or.inl (Or.inr ⟨o, by omega, h2, h3⟩)
    · refine ⟨(x, nI (k + 1)), ?_, rfl, fun j hj => ?_⟩
      · show Cl_allUnlike_L6 a σ x (nI k) = _
        unfold Cl_allUnlike_L6
        rw [h.1, if_neg (by rw [le_nI (by omega) (by omega)]; omega), isOn_n h w (by omega), if_neg hb, bd_s, if_pos rfl, bnd_x, nI_1]
      · show lb x j = true ↔ _
        rw [hx' j hj]
        constructor
        · rintro (z | ⟨o, h1, h2, h3⟩)
          · exact Or.inl z
          · exact Or.inr ⟨o, by omega, h2, h3⟩
        · rintro (z | ⟨o, h1, h2, h3⟩)
          · exact Or.inl z
          · by_cases e : o = k
            · rw [e] at h2; exact absurd h2 hb
            · exact Or.inr ⟨o, by omega, h2, h3⟩
  · rintro ⟨x, k'⟩ ⟨rfl, hx⟩
    have hx' : ∀ j, j < 64 → (lb x j = true ↔ j = 1 ∨ ∃ o, o < t ∧ on.testBit o = true ∧ md o = j) := hx
    refine ⟨_, ?_, rfl⟩
    show Cl_allUnlike_L6 a σ x (nI t) = _
    unfold Cl_allUnlike_L6
    rw [h.1]
    by_cases q : t < c
    · have hy := hyes q
      have hb : on.testBit t = true := by
        unfold lkb at hy
        rw [Bool.and_eq_true] at hy
        exact hy.1
      have hne : ¬ lkb on md t = false := by rw [hy]; decide
      rw [if_neg (by rw [le_nI (by omega) (by omega)]; omega), isOn_n h w (by omega), if_pos hb, bd_s, if_neg (by decide), ix_nI (by omega) (by omega), chk_true, tn_nI (by omega), h.2.2.2.2.1 t q, bnd_x, if_neg (fun e => hne ((met_bit q hx' hb).mp e)), if_pos q]
    · rw [if_pos (by rw [le_nI (by omega) (by omega)]; omega), if_neg q]
  · show lb (lN 2) j = true ↔ _
    rw [lb_N hj, show (2 : Nat) = 2 ^ 1 from rfl, Nat.testBit_two_pow, decide_eq_true_iff]
    constructor
    · intro e; exact Or.inl e.symm
    · rintro (e | ⟨o, h1, _⟩)
      · exact e.symm
      · omega
theorem unlike_m (h : MV σ 0 q c od on rs md nm) (w : WF c od on rs md nm) : Mo_areUnlike σ = some (if fa_first (lkb on md) c < c then 0 else 1) := by
  unfold Mo_areUnlike
  have hc := w.1
  have hle := fa_first_le (lkb on md) c
  have hno := fa_first_no (lkb on md) c
  have hyes := fa_first_yes (lkb on md) c
  generalize fa_first (lkb on md) c = t at hle hno hyes
  have inner : ∀ k, k < c → ∀ b : Bool, iter (fun u : (Int32 × Int32) => Mo_areUnlike_L43 (nI k) σ u.1 u.2) FUEL ((if b then 1 else 0), 0) = some (if (b && !(on.testBit k && decide (0 < fb_ct (fun o => on.testBit o && decide (md k = md o)) k))) = true then 1 else 0) := by
    intro k hk b
    obtain ⟨m1, m2, m3⟩ := w.2.2.2.1 k hk
    have := iter_for (body := fun u : (Int32 × Int32) => Mo_areUnlike_L43 (nI k) σ u.1 u.2) (fun o => ((if (b && !(on.testBit k && decide (0 < fb_ct (fun o => on.testBit o && decide (md k = md o)) o))) = true then 1 else 0), nI o)) (lo := 0) (hi := k) (e := if (b && !(on.testBit k && decide (0 < fb_ct (fun o => on.testBit o && decide (md k = md o)) k))) = true then 1 else 0) (n := FUEL) (Nat.zero_le _) (fuel (by omega)) (by
      intro o _ ho
      obtain ⟨d1, d2, d3⟩ := w.2.2.2.1 o (by omega)
      show Mo_areUnlike_L43 (nI k) σ (if (b && !(on.testBit k && decide (0 < fb_ct (fun o => on.testBit o && decide (md k = md o)) o))) = true then 1 else 0) (nI o) = some (.inl ((if (b && !(on.testBit k && decide (0 < fb_ct (fun o => on.testBit o && decide (md k = md o)) (o + 1)))) = true then 1 else 0), nI (o + 1)))
      have hmono : 0 < fb_ct (fun o => on.testBit o && decide (md k = md o)) o → 0 < fb_ct (fun o => on.testBit o && decide (md k = md o)) (o + 1) := fun z => by rw [fb_ct_succ]; omega
      unfold Mo_areUnlike_L43
      rw [if_neg (by rw [le_nI (by omega) (by omega)]; omega)]
      by_cases e : (b && !(on.testBit k && decide (0 < fb_ct (fun o => on.testBit o && decide (md k = md o)) o))) = true
      · rw [if_pos e, if_neg (by decide), isOnM_n h w hk, bd_s]
        have eb : b = true := by cases b <;> simp_all
        by_cases hb : on.testBit k = true
        · have ez : ¬ 0 < fb_ct (fun o => on.testBit o && decide (md k = md o)) o := fun z => by
            rw [eb, hb, decide_eq_true z] at e
            exact absurd e (by decide)
          rw [if_pos hb, if_neg (by decide), isOnM_n h w (by omega), bd_s, fb_ct_succ, eb, hb]
          by_cases hb2 : on.testBit o = true
          · rw [if_pos hb2, if_neg (by decide), modulusOf_n h w hk, bd_s, modulusOf_n h w (by omega), bd_s]
            by_cases em : md k = md o
            · rw [if_pos (by rw [em]), bnd_x, nI_1, if_pos (show (on.testBit o && decide (md k = md o)) = true by simp [hb2, em]), decide_eq_true (by omega)]
              rfl
            · rw [if_neg (by rw [eq_nI (by omega) (by omega)]; omega), bnd_x, nI_1, if_neg (show ¬ (on.testBit o && decide (md k = md o)) = true by simp [em]), decide_eq_false (by omega)]
              rfl
          · rw [if_neg hb2, if_pos rfl, bnd_x, nI_1, if_neg (show ¬ (on.testBit o && decide (md k = md o)) = true by simp [hb2]), decide_eq_false (by omega)]
            rfl
        · have hb' : on.testBit k = false := by simpa using hb
          rw [if_neg hb, if_pos rfl, bnd_x, nI_1, eb, hb']
          rfl
      · rw [if_neg e, if_pos rfl, bnd_x, nI_1, if_neg]
        intro z
        apply e
        have z1 : b = true := by cases b <;> simp_all
        rw [z1] at z ⊢
        by_cases hb : on.testBit k = true
        · rw [hb] at z ⊢
          have z2 : ¬ 0 < fb_ct (fun o => on.testBit o && decide (md k = md o)) (o + 1) := by simpa using z
          rw [decide_eq_false (fun y => z2 (hmono y))]
          rfl
        · have hb' : on.testBit k = false := by simpa using hb
          rw [hb']
          rfl) (by
      show Mo_areUnlike_L43 (nI k) σ _ (nI k) = _
      unfold Mo_areUnlike_L43
      rw [if_pos (by rw [le_nI (by omega) (by omega)]; omega)])
    have e0 : (b && !(on.testBit k && decide (0 < fb_ct (fun o => on.testBit o && decide (md k = md o)) 0))) = b := by
      rw [show fb_ct (fun o => on.testBit o && decide (md k = md o)) 0 = 0 from rfl]
      simp
    rw [e0] at this
    exact this
  have key := iter_for (body := fun u : (Int32 × Int32) => Mo_areUnlike_L4 σ u.1 u.2) (fun k => ((if k ≤ t then 1 else 0), nI k)) (lo := 0) (hi := c) (e := if t < c then 0 else 1) (n := FUEL) (Nat.zero_le _) (fuel (by omega)) ?_ ?_
  · have key2 : iter (fun u : (Int32 × Int32) => Mo_areUnlike_L4 σ u.1 u.2) FUEL (1, 0) = some (if t < c then 0 else 1) := by
      rw [if_pos (Nat.zero_le t)] at key
      exact key
    rw [key2, bd_s]
    by_cases q : t < c
    · rw [if_pos q, ckl0, chk_true]
    · rw [if_neg q, ckl1, chk_true]
  · intro k _ hk
    show Mo_areUnlike_L4 σ (if k ≤ t then 1 else 0) (nI k) = some (.inl ((if k + 1 ≤ t then 1 else 0), nI (k + 1)))
    obtain ⟨m1, m2, m3⟩ := w.2.2.2.1 k hk
    have i1 := inner k hk true
    have i0 := inner k hk false
    rw [if_pos rfl, Bool.true_and] at i1
    rw [if_neg (by decide), Bool.false_and, if_neg (by decide)] at i0
    have hlk : (k + 1 ≤ t) ↔ (k ≤ t ∧ lkb on md k = false) := by
      constructor
      · intro z; exact ⟨by omega, hno k (by omega)⟩
      · rintro ⟨z1, z2⟩
        rcases Nat.lt_or_ge k t with z | z
        · exact z
        · have : t = k := by omega
          subst this
          have := hyes hk
          rw [z2] at this
          exact absurd this (by decide)
    unfold Mo_areUnlike_L4
    rw [ix00, chk_true, tn00, h.c0, if_neg (by rw [le_nI (by omega) (by omega)]; omega)]
    by_cases q : k ≤ t
    · rw [if_pos q, if_neg (by decide), isOnM_n h w hk, bd_s]
      by_cases hb : on.testBit k = true
      · rw [if_pos hb, if_neg (by decide), modulusOf_n h w hk, bd_s, show (1 : Int32) = nI 1 from rfl]
        by_cases em : md k ≤ 1
        · rw [if_pos (by rw [le_nI (by omega) (by omega)]; exact em), show (0 : Int32) = nI 0 from rfl] 
          rw [show ((nI 0 : Int32), (nI 0 : Int32)) = ((0 : Int32), (0 : Int32)) from rfl, i0, bd_s, bnd_x, if_neg (fun z => by
            have := (hlk.mp z).2
            unfold lkb at this
            rw [hb, decide_eq_true em] at this
            exact absurd this (by simp))]
          show some (Sum.inl ((0 : Int32), nI k + nI 1)) = some (Sum.inl ((0 : Int32), nI (k + 1)))
          rw [nI_add]
        · rw [if_neg (by rw [le_nI (by omega) (by omega)]; exact em)]
          rw [show ((nI 1 : Int32), (0 : Int32)) = ((1 : Int32), (0 : Int32)) from rfl, i1, bd_s, bnd_x, hb, Bool.true_and]
          have el : lkb on md k = decide (0 < fb_ct (fun o => on.testBit o && decide (md k = md o)) k) := by
            unfold lkb
            rw [hb, Bool.true_and, decide_eq_false em, Bool.false_or]
          rw [← el]
          by_cases z : lkb on md k = true
          · rw [z, if_neg (by decide), if_neg (fun y => by rw [(hlk.mp y).2] at z; exact absurd z (by decide))]
            show some (Sum.inl ((0 : Int32), nI k + nI 1)) = some (Sum.inl ((0 : Int32), nI (k + 1)))
            rw [nI_add]
          · have z' : lkb on md k = false := by simpa using z
            rw [z', if_pos (by decide), if_pos (hlk.mpr ⟨q, z'⟩)]
            show some (Sum.inl ((1 : Int32), nI k + nI 1)) = some (Sum.inl ((1 : Int32), nI (k + 1)))
            rw [nI_add]
      · have hb' : on.testBit k = false := by simpa using hb
        rw [if_neg hb, if_pos rfl, i1, bd_s, bnd_x, nI_1, hb', Bool.false_and, if_pos (by decide), if_pos (hlk.mpr ⟨q, by unfold lkb; rw [hb', Bool.false_and]⟩)]
    · rw [if_neg q, if_pos rfl, i0, bd_s, bnd_x, nI_1, if_neg (by omega)]
  · show Mo_areUnlike_L4 σ (if c ≤ t then 1 else 0) (nI c) = _
    unfold Mo_areUnlike_L4
    rw [ix00, chk_true, tn00, h.c0, if_pos (by rw [le_nI (by omega) (by omega)]; omega)]
    by_cases q : t < c
    · rw [if_neg (by omega), if_pos q]
    · rw [if_pos (by omega), if_neg q]
end TCH
