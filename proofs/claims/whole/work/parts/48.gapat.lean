/-! the k-th gap -/
theorem lb_clr (y : Int64) {j : Nat} (hj : j < 64) : lb (y &&& (y - 1)) j = (lb y j && decide (0 < fb_ct (lb y) j)) := by
  obtain ⟨n, hn, rfl⟩ := wb_of y
  by_cases h0 : n = 0
  · subst h0
    rw [lb_and, show lN 0 = 0 from rfl, lb_0, Bool.false_and, Bool.false_and]
  · have e1 : lN n - 1 = lN (n - 1) := lN_sub (b := 1) (by omega)
    rw [e1, fb_andL, lb_N hj, clr_bit, lb_N hj, fb_ct_cong (p := fun i => n.testBit i) (q := lb (lN n)) (n := j) (fun i hi => (lb_N (by omega)).symm)]
theorem lb_neg {n t : Nat} (hn : n < 2 ^ 64) (h1 : n.testBit t = true) (h2 : ∀ j, j < t → n.testBit j = false) (ht : t < 64) : lN n &&& (-(lN n)) = lN (2 ^ t) := by
  have h0 : 0 < n := by
    apply Nat.pos_of_ne_zero
    intro e
    rw [e, Nat.zero_testBit] at h1
    exact absurd h1 (by decide)
  have e : -(lN n) = lN (2 ^ 64 - (n - 1 + 1)) := wb_inj (by
    rw [Int64.toBitVec_neg, wb_tb, wb_tb]
    apply BitVec.eq_of_toNat_eq
    rw [BitVec.toNat_neg, BitVec.toNat_ofNat, BitVec.toNat_ofNat, Nat.mod_eq_of_lt hn, show n - 1 + 1 = n by omega])
  rw [e, fb_andL]
  congr 1
  apply Nat.eq_of_testBit_eq
  intro j
  rw [Nat.testBit_and, Nat.testBit_two_pow_sub_succ (by omega), low_bit h1 h2, Nat.testBit_two_pow]
  by_cases q : j < t
  · rw [h2 j q, Bool.false_and, decide_eq_false (by omega)]
  · rw [if_neg q]
    by_cases z : j = t
    · rw [if_pos z, z, h1, decide_eq_true ht, decide_eq_true rfl]; rfl
    · rw [if_neg z, decide_eq_false (p := t = j) (fun y => z y.symm)]
      cases n.testBit j <;> simp
theorem place_b {x : Int64} {k j : Nat} (hj : j < 64) (h1 : lb x j = true) (h2 : fb_ct (lb x) j = k) : Si_placeOfBit x (nI k) = some (nI j) := by
  have hk : k ≤ j := by rw [← h2]; exact fb_ct_le _ _
  obtain ⟨y, a1, a2⟩ := iter_cnt (body := fun s : (Int64 × Int32) => Si_placeOfBit_L5 (nI k) s.1 s.2) (fun i s => s.2 = nI i ∧ ∀ j, j < 64 → lb s.1 j = (lb x j && decide (i ≤ fb_ct (lb x) j))) (fun e => ∀ j, j < 64 → lb e j = (lb x j && decide (k ≤ fb_ct (lb x) j))) (lo := 0) (hi := k) (n := FUEL) (Nat.zero_le _) (fuel (by omega)) (by
    rintro i ⟨y, i'⟩ _ hi ⟨rfl, hy⟩
    have hy' : ∀ j, j < 64 → lb y j = (lb x j && decide (i ≤ fb_ct (lb x) j)) := hy
    refine ⟨(y &&& (y - 1), nI (i + 1)), ?_, rfl, fun j hj => ?_⟩
    · show Si_placeOfBit_L5 (nI k) y (nI i) = _
      unfold Si_placeOfBit_L5
      rw [if_neg (by rw [le_nI (by omega) (by omega)]; omega), bnd_x, bnd_x, nI_1]
    · show lb (y &&& (y - 1)) j = _
      rw [lb_clr y hj, fb_ct_cong (n := j) (fun i hi => hy' i (by omega)), ct_rank, hy' j hj]
      by_cases z : i + 1 ≤ fb_ct (lb x) j
      · rw [decide_eq_true z, decide_eq_true (show i ≤ fb_ct (lb x) j by omega), decide_eq_true (by omega), Bool.and_true, Bool.and_true]
      · rw [decide_eq_false z, decide_eq_false (show ¬ 0 < fb_ct (lb x) j - i by omega), Bool.and_false, Bool.and_false]) (by
    rintro ⟨y, i'⟩ ⟨rfl, hy⟩
    refine ⟨y, ?_, hy⟩
    show Si_placeOfBit_L5 (nI k) y (nI k) = _
    unfold Si_placeOfBit_L5
    rw [if_pos (by rw [le_nI (by omega) (by omega)]; omega)]) (s := (x, 0)) ⟨rfl, fun j hj => by rw [decide_eq_true (Nat.zero_le _), Bool.and_true]⟩
  obtain ⟨n, hn, rfl⟩ := wb_of y
  have b1 : n.testBit j = true := by
    rw [← lb_N hj, a2 j hj, h1, h2, decide_eq_true (Nat.le_refl k)]
    rfl
  have b2 : ∀ i, i < j → n.testBit i = false := fun i hi => by
    rw [← lb_N (show i < 64 by omega), a2 i (by omega)]
    cases e : lb x i with
    | false => rw [Bool.false_and]
    | true =>
      rw [Bool.true_and, decide_eq_false]
      intro z
      have m := fb_ct_mono (lb x) (show i + 1 ≤ j from hi)
      rw [fb_ct_succ, if_pos e, h2] at m
      omega
  have c1 : (lN n &&& (-(lN n))) - 1 = lN (2 ^ j - 1) := by
    rw [lb_neg hn b1 b2 hj]
    exact lN_sub (b := 1) Nat.one_le_two_pow
  have c2 : fb_ct (lb (lN (2 ^ j - 1))) 64 = j := by
    rw [fb_ct_cong (q := fun i => true && decide (i < j)) (n := 64) (fun i hi => by rw [lb_N hi, tb_ones, Bool.true_and]), ct_cut (by omega)]
    exact fb_ct_all.mpr (fun _ _ => rfl)
  unfold Si_placeOfBit
  rw [a1, bd_s, c1, bcL_l, bd_s, c2]
theorem findGap_n {τ : St} {S : Nat} {f1 f2 : Nat → Bool} (g : Sq τ S f1 f2) (hS : S ≤ 5040) {k i : Nat} (hk : k < 2147483648) (hi : i < S) (h1 : f1 i = false) (h2 : fb_ct (fun y => !f1 y) i = k) : Si_findGap τ (nI k) = some (nI i) := by
  obtain ⟨P, hP⟩ : ∃ P : Nat → Bool, P = fun y => !f1 y && decide (y < S) := ⟨_, rfl⟩
  have hPi : P i = true := by rw [hP]; show (!f1 i && decide (i < S)) = true; rw [h1, decide_eq_true hi]; rfl
  have hcP : fb_ct P i = k := by
    rw [← h2, hP]
    exact fb_ct_cong (fun y hy => by rw [decide_eq_true (show y < S by omega), Bool.and_true])
  have hop : ∀ w, w < (S + 63) / 64 → ∃ x, Si_openIn τ (nI w) = some x ∧ ∀ j, j < 64 → lb x j = P (64 * w + j) := fun w hw => by
    rw [hP]; exact open_n g hS hw
  unfold Si_findGap
  refine iter_for (body := fun s : (Int32 × Int32) => Si_findGap_L4 (nI k) τ s.1 s.2) (fun w => (nI (fb_ct P (64 * w)), nI w)) (lo := 0) (hi := i / 64) (n := FUEL) (Nat.zero_le _) (fuel (by omega)) ?_ ?_
  · intro w _ hw
    show Si_findGap_L4 (nI k) τ (nI (fb_ct P (64 * w))) (nI w) = some (.inl (nI (fb_ct P (64 * (w + 1))), nI (w + 1)))
    obtain ⟨x, x1, x2⟩ := hop w (by omega)
    have hs : fb_ct P (64 * w) + fb_ct (lb x) 64 = fb_ct P (64 * (w + 1)) := by
      rw [show 64 * (w + 1) = 64 * w + 64 by omega, fb_ct_split, fb_ct_cong (fun j hj => x2 j hj)]
    have hm := fb_ct_mono P (show 64 * (w + 1) ≤ i by omega)
    unfold Si_findGap_L4
    rw [g.2.1, if_neg (by rw [le_nI (by omega) (by omega)]; omega), if_neg (nI_pos hk), x1, bd_s, bcL_l, bd_s, nI_add, hs, if_pos (by rw [le_nI (by omega) (by omega)]; omega), bnd_x, bnd_x, nI_1]
  · show Si_findGap_L4 (nI k) τ (nI (fb_ct P (64 * (i / 64)))) (nI (i / 64)) = _
    obtain ⟨x, x1, x2⟩ := hop (i / 64) (by omega)
    have hs : fb_ct P (64 * (i / 64)) + fb_ct (lb x) 64 = fb_ct P (64 * (i / 64) + 64) := by
      rw [fb_ct_split, fb_ct_cong (fun j hj => x2 j hj)]
    have hm := fb_ct_mono P (show i + 1 ≤ 64 * (i / 64) + 64 by omega)
    rw [fb_ct_succ, if_pos hPi, hcP] at hm
    have hm2 := fb_ct_le P (64 * (i / 64) + 64)
    have hj : fb_ct P (64 * (i / 64)) + fb_ct (lb x) (i % 64) = k := by
      rw [← hcP]
      have := fb_ct_split P (64 * (i / 64)) (i % 64)
      rw [show 64 * (i / 64) + i % 64 = i by omega] at this
      rw [this, fb_ct_cong (n := i % 64) (fun j hj => x2 j (by omega))]
    have hb : lb x (i % 64) = true := by rw [x2 _ (by omega), show 64 * (i / 64) + i % 64 = i by omega]; exact hPi
    unfold Si_findGap_L4
    rw [g.2.1, if_neg (by rw [le_nI (by omega) (by omega)]; omega), if_neg (nI_pos hk), x1, bd_s, bcL_l, bd_s, nI_add, hs, if_neg (by rw [le_nI (by omega) (by omega)]; omega), bd_s, sub_nI (by omega), place_b (by omega) hb (by omega), bd_s, show (64 : Int32) = nI 64 from rfl, pk_mul, nI_add, show i / 64 * 64 + i % 64 = i by omega]
theorem findGap_0 {τ : St} {S : Nat} {f1 f2 : Nat → Bool} (g : Sq τ S f1 f2) (hS : S ≤ 5040) (hS1 : 1 ≤ S) {p : Int32} (h : p < 0 ∨ ∃ k, k < 2147483648 ∧ p = nI k ∧ fb_ct (fun y => !f1 y) S ≤ k) : Si_findGap τ p = some (-1) := by
  unfold Si_findGap
  rcases h with h | ⟨k, hk, rfl, hG⟩
  · refine iter_for (body := fun s : (Int32 × Int32) => Si_findGap_L4 p τ s.1 s.2) (fun w => (0, 0)) (lo := 0) (hi := 0) (n := FUEL) (Nat.zero_le _) (fuel (by omega)) (fun w _ hw => by omega) ?_
    show Si_findGap_L4 p τ 0 0 = _
    unfold Si_findGap_L4
    rw [g.2.1, show (0 : Int32) = nI 0 from rfl, if_neg (by rw [le_nI (by omega) (by omega)]; omega), if_pos (show p < nI 0 from h)]
  · obtain ⟨P, hP⟩ : ∃ P : Nat → Bool, P = fun y => !f1 y && decide (y < S) := ⟨_, rfl⟩
    have hop : ∀ w, w < (S + 63) / 64 → ∃ x, Si_openIn τ (nI w) = some x ∧ ∀ j, j < 64 → lb x j = P (64 * w + j) := fun w hw => by
      rw [hP]; exact open_n g hS hw
    have hcut : fb_ct P (64 * ((S + 63) / 64)) ≤ k := by
      rw [hP, ct_cut (by omega)]; exact hG
    refine iter_for (body := fun s : (Int32 × Int32) => Si_findGap_L4 (nI k) τ s.1 s.2) (fun w => (nI (fb_ct P (64 * w)), nI w)) (lo := 0) (hi := (S + 63) / 64) (n := FUEL) (Nat.zero_le _) (fuel (by omega)) ?_ ?_
    · intro w _ hw
      show Si_findGap_L4 (nI k) τ (nI (fb_ct P (64 * w))) (nI w) = some (.inl (nI (fb_ct P (64 * (w + 1))), nI (w + 1)))
      obtain ⟨x, x1, x2⟩ := hop w hw
      have hs : fb_ct P (64 * w) + fb_ct (lb x) 64 = fb_ct P (64 * (w + 1)) := by
        rw [show 64 * (w + 1) = 64 * w + 64 by omega, fb_ct_split, fb_ct_cong (fun j hj => x2 j hj)]
      have hm := fb_ct_mono P (show 64 * (w + 1) ≤ 64 * ((S + 63) / 64) by omega)
      unfold Si_findGap_L4
      rw [g.2.1, if_neg (by rw [le_nI (by omega) (by omega)]; omega), if_neg (nI_pos hk), x1, bd_s, bcL_l, bd_s, nI_add, hs, if_pos (by rw [le_nI (by omega) (by omega)]; omega), bnd_x, bnd_x, nI_1]
    · show Si_findGap_L4 (nI k) τ (nI (fb_ct P (64 * ((S + 63) / 64)))) (nI ((S + 63) / 64)) = _
      unfold Si_findGap_L4
      rw [g.2.1, if_pos (by rw [le_nI (by omega) (by omega)]; omega)]
theorem gapAtM {υ : St} {S X : Nat} {f : Nat → Nat} {p : Int32} (hS : S ≤ 5040) (v1 : υ.1 92 23 = nI S) (v2 : ∀ y, y < S → υ.1 101 y = nI (f y)) (hf : ∀ y, y < S → f y < 4096) (hX : X ≤ S) (hne : ∀ x, x < X → f x = 0 → ¬ nI (fb_ct (fun y => decide (f y = 0)) x) = p) (hyes : X < S → f X = 0 ∧ nI (fb_ct (fun y => decide (f y = 0)) X) = p) : iter (fun s : (Int32 × Int32) => Mo_gapAt_L18 p υ s.1 s.2) FUEL (0, 0) = some (if X < S then (nI X, wI υ 92 2 0) else (-1, wI υ 92 2 6)) := by
  refine iter_for (body := fun s : (Int32 × Int32) => Mo_gapAt_L18 p υ s.1 s.2) (fun x => (nI (fb_ct (fun y => decide (f y = 0)) x), nI x)) (lo := 0) (hi := X) (n := FUEL) (Nat.zero_le _) (fuel (by omega)) ?_ ?_
  · intro x _ hx
    show Mo_gapAt_L18 p υ (nI (fb_ct (fun y => decide (f y = 0)) x)) (nI x) = some (.inl (nI (fb_ct (fun y => decide (f y = 0)) (x + 1)), nI (x + 1)))
    have h4 := hf x (by omega)
    unfold Mo_gapAt_L18
    rw [v1, if_neg (by rw [le_nI (by omega) (by omega)]; omega), ix_nI (by omega) (by omega), chk_true, tn_nI (by omega), v2 x (by omega), fb_ct_succ]
    by_cases z : f x = 0
    · rw [if_pos (by rw [z]; rfl), if_neg (hne x hx z), bnd_x, bnd_x, nI_1, nI_1, if_pos (decide_eq_true z)]
    · rw [if_neg (by rw [show (0 : Int32) = nI 0 from rfl, eq_nI (by omega) (by omega)]; exact z), bnd_x, nI_1, if_neg (by simpa using z)]
      rfl
  · show Mo_gapAt_L18 p υ (nI (fb_ct (fun y => decide (f y = 0)) X)) (nI X) = _
    unfold Mo_gapAt_L18
    by_cases z : X < S
    · obtain ⟨y1, y2⟩ := hyes z
      rw [v1, if_neg (by rw [le_nI (by omega) (by omega)]; omega), ix_nI (by omega) (by omega), chk_true, tn_nI (by omega), v2 X z, if_pos (by rw [y1]; rfl), if_pos y2, Mo_gives_n, bd2_s, if_pos z]
    · rw [v1, if_pos (by rw [le_nI (by omega) (by omega)]; omega), Mo_refuse_n, bd2_s, if_neg z]
theorem call_gapAt {σ : St} (I : Inv σ) (p : Int32) : Call (fun σ => RC_gapAt σ p) (fun σ => Mo_gapAt σ p) σ := by
  obtain ⟨c, od, on, rs, md, nm, hc, hm, w⟩ := I.2.2.2.2.1
  have hc12 := w.1
  by_cases h0 : spn md on c = 0
  · refine call_w (r := -1) I ?_ (fun σ1 F => ?_)
    · show RC_gapAt σ p = _
      unfold RC_gapAt
      rw [sieved_0 hc w h0, bd2_s, if_pos rfl, RC_refuse_n, bd2_s]
    · show Mo_gapAt σ1 p = _
      unfold Mo_gapAt
      rw [laysNow_0 (hm.w2 F) w h0, bd2_s, if_pos rfl, Mo_refuse_n, bd2_s]
  obtain ⟨p1, p2⟩ := spn_pos h0
  obtain ⟨τ, a1, a2, a3, a4⟩ := sieved_n hc w h0
  obtain ⟨S, hS⟩ : ∃ S, S = spn md on c := ⟨_, rfl⟩
  rw [← hS] at p1 p2 a4
  have hcng : ∀ n, fb_ct (fun y => !q1 on rs md y c) n = fb_ct (fun y => decide (hb on rs md y c = 0)) n := fun n => fb_ct_cong (fun y _ => by rw [q1_hb, Bool.not_not])
  have h4 : ∀ y, y < S → hb on rs md y c < 4096 := fun y _ => hb_4 on rs md y hc12
  by_cases hp : ∃ k, k < 2147483648 ∧ p = nI k ∧ k < fb_ct (fun y => decide (hb on rs md y c = 0)) S
  · obtain ⟨k, hk, rfl, hkG⟩ := hp
    obtain ⟨i, i1, i2, i3⟩ := fb_ct_kth hkG
    have i2' : hb on rs md i c = 0 := of_decide_eq_true i2
    refine call_v I (a2.mono Asv.q) (r := nI i) (v := 0) ?_ (fun σ1 F => ?_)
    · show RC_gapAt σ (nI k) = _
      unfold RC_gapAt
      rw [a1, bd2_s, if_neg (by decide), findGap_n a4 p2 hk i1 (by rw [q1_hb, i2]; rfl) ((hcng i).trans i3), bd_s, orNone_c, if_neg (nI_m1 (by omega)), bd2_s]
    · obtain ⟨υ, b1, b2, b3, b4, b5⟩ := laysNow_n (hm.w2 F) w h0
      rw [← hS] at b4 b5
      refine ⟨υ, b2.mono Aly.q, ?_⟩
      show Mo_gapAt σ1 (nI k) = _
      unfold Mo_gapAt
      rw [b1, bd2_s, if_neg (by decide), gapAtM (X := i) p2 b4 b5 h4 (by omega) (fun x hx z e => ?_) (fun _ => ⟨i2', by rw [i3]⟩), if_pos i1]
      have e2 := (eq_nI (by have := fb_ct_le (fun y => decide (hb on rs md y c = 0)) x; omega) hk).mp e
      have m := fb_ct_mono (fun y => decide (hb on rs md y c = 0)) (show x + 1 ≤ i from hx)
      rw [fb_ct_succ, if_pos (decide_eq_true z)] at m
      omega
  · have hp' : p < 0 ∨ ∃ k, k < 2147483648 ∧ p = nI k ∧ fb_ct (fun y => decide (hb on rs md y c = 0)) S ≤ k := by
      by_cases z : p < 0
      · exact Or.inl z
      · obtain ⟨k, k1, k2⟩ := nI_of z
        refine Or.inr ⟨k, k1, k2, ?_⟩
        apply Nat.le_of_not_lt
        intro y
        exact hp ⟨k, k1, k2, y⟩
    refine call_v I (a2.mono Asv.q) (r := -1) (v := 6) ?_ (fun σ1 F => ?_)
    · show RC_gapAt σ p = _
      unfold RC_gapAt
      rw [a1, bd2_s, if_neg (by decide), findGap_0 a4 p2 p1 (by rw [hcng]; exact hp'), bd_s, orNone_c, if_pos rfl, bd2_s]
    · obtain ⟨υ, b1, b2, b3, b4, b5⟩ := laysNow_n (hm.w2 F) w h0
      rw [← hS] at b4 b5
      refine ⟨υ, b2.mono Aly.q, ?_⟩
      show Mo_gapAt σ1 p = _
      unfold Mo_gapAt
      rw [b1, bd2_s, if_neg (by decide), gapAtM (X := S) p2 b4 b5 h4 (by omega) (fun x hx z e => ?_) (fun q => by omega), if_neg (by omega)]
      have hl := fb_ct_le (fun y => decide (hb on rs md y c = 0)) x
      rcases hp' with q | ⟨k, k1, k2, k3⟩
      · rw [← e] at q
        exact nI_pos (by omega) q
      · rw [k2] at e
        have e2 := (eq_nI (by omega) k1).mp e
        have m := fb_ct_mono (fun y => decide (hb on rs md y c = 0)) (show x + 1 ≤ S from hx)
        rw [fb_ct_succ, if_pos (decide_eq_true z)] at m
        omega
