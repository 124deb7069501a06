/-! a class alone -/
theorem q1_ex (s : Nat) (rs md : Nat → Nat) (x : Nat) : ∀ k, q1 s rs md x k = true ↔ ∃ j, j < k ∧ s.testBit j = true ∧ x % md j = rs j
  | 0 => by
    constructor
    · intro h; exact absurd h (by show ¬ false = true; decide)
    · rintro ⟨j, h, _⟩; omega
  | k + 1 => by
    show (q1 s rs md x k || (s.testBit k && decide (x % md k = rs k))) = true ↔ _
    rw [Bool.or_eq_true, q1_ex s rs md x k, Bool.and_eq_true, decide_eq_true_iff]
    constructor
    · rintro (⟨j, h1, h2⟩ | h)
      · exact ⟨j, by omega, h2⟩
      · exact ⟨k, by omega, h⟩
    · rintro ⟨j, h1, h2⟩
      by_cases e : j = k
      · rw [e] at h2; exact Or.inr h2
      · exact Or.inl ⟨j, by omega, h2⟩
theorem q2_ex (s : Nat) (rs md : Nat → Nat) (x : Nat) : ∀ k, q2 s rs md x k = true ↔ ∃ i j, i < j ∧ j < k ∧ (s.testBit i = true ∧ x % md i = rs i) ∧ s.testBit j = true ∧ x % md j = rs j
  | 0 => by
    constructor
    · intro h; exact absurd h (by show ¬ false = true; decide)
    · rintro ⟨i, j, _, h, _⟩; omega
  | k + 1 => by
    show (q2 s rs md x k || (q1 s rs md x k && (s.testBit k && decide (x % md k = rs k)))) = true ↔ _
    rw [Bool.or_eq_true, q2_ex s rs md x k, Bool.and_eq_true, q1_ex, Bool.and_eq_true, decide_eq_true_iff]
    constructor
    · rintro (⟨i, j, h1, h2, h3⟩ | ⟨⟨i, h1, h2⟩, h3⟩)
      · exact ⟨i, j, h1, by omega, h3⟩
      · exact ⟨i, k, h1, by omega, h2, h3⟩
    · rintro ⟨i, j, h1, h2, h3, h4⟩
      by_cases e : j = k
      · rw [e] at h4 h1; exact Or.inr ⟨⟨i, h1, h3⟩, h4⟩
      · exact Or.inl ⟨i, j, h1, by omega, h3, h4⟩
theorem hb_bit (s : Nat) (rs md : Nat → Nat) (x c i : Nat) : (hb s rs md x c).testBit i = true ↔ i < c ∧ s.testBit i = true ∧ x % md i = rs i := by
  unfold hb
  rw [bset_bit, Bool.and_eq_true, Bool.and_eq_true, decide_eq_true_iff, decide_eq_true_iff]
theorem only_eq {s : Nat} {rs md : Nat → Nat} {x c k : Nat} (hk : k < c) (hs : s.testBit k = true) : (decide (x % md k = rs k) && !q2 s rs md x c) = decide (hb s rs md x c = 2 ^ k) := by
  by_cases ht : x % md k = rs k
  · rw [decide_eq_true ht, Bool.true_and]
    by_cases hq : q2 s rs md x c = true
    · rw [hq, decide_eq_false]
      · rfl
      · intro e
        obtain ⟨i, j, h1, h2, h3, h4⟩ := (q2_ex s rs md x c).mp hq
        have b1 := (hb_bit s rs md x c i).mpr ⟨by omega, h3⟩
        have b2 := (hb_bit s rs md x c j).mpr ⟨h2, h4⟩
        rw [e, Nat.testBit_two_pow, decide_eq_true_iff] at b1 b2
        omega
    · have hq' : q2 s rs md x c = false := by simpa using hq
      rw [hq', decide_eq_true]
      · rfl
      · apply Nat.eq_of_testBit_eq
        intro i
        rw [Nat.testBit_two_pow]
        by_cases e : k = i
        · subst e
          rw [decide_eq_true rfl]
          exact (hb_bit s rs md x c k).mpr ⟨hk, hs, ht⟩
        · rw [decide_eq_false e]
          apply Bool.eq_false_iff.mpr
          intro b
          obtain ⟨b1, b2, b3⟩ := (hb_bit s rs md x c i).mp b
          apply hq
          rcases Nat.lt_or_gt_of_ne e with z | z
          · exact (q2_ex s rs md x c).mpr ⟨k, i, z, b1, ⟨hs, ht⟩, b2, b3⟩
          · exact (q2_ex s rs md x c).mpr ⟨i, k, z, hk, ⟨b2, b3⟩, hs, ht⟩
  · rw [decide_eq_false ht, Bool.false_and, decide_eq_false]
    intro e
    have : (hb s rs md x c).testBit k = true := by rw [e, Nat.testBit_two_pow, decide_eq_true rfl]
    exact ht ((hb_bit s rs md x c k).mp this).2.2
theorem word_n {m r W : Nat} {x : Int64} (h1 : 1 ≤ m) (h2 : m ≤ 60) (hr : r < m) (hW : W ≤ 79) (hx : ∀ j, j < 64 → lb x j = decide (j % m = 0)) : ∃ y, RC_wordOf x (nI m) (nI r) (nI W) = some y ∧ ∀ j, j < 64 → lb y j = decide ((64 * W + j) % m = r) := by
  have z0 : 0 ≤ ((r : Int) - (W * 64 : Nat)) % (m : Int) := Int.emod_nonneg _ (by omega)
  have z1 : ((r : Int) - (W * 64 : Nat)) % (m : Int) < m := Int.emod_lt_of_pos _ (by omega)
  obtain ⟨o, ho⟩ : ∃ o, o = (((r : Int) - (W * 64 : Nat)) % (m : Int)).toNat := ⟨_, rfl⟩
  have hoi : (o : Int) = ((r : Int) - (W * 64 : Nat)) % (m : Int) := by omega
  have hom : (o + 64 * W) % m = r := by
    have e : (((o + 64 * W) % m : Nat) : Int) = (r : Int) := by
      rw [Int.natCast_emod, show ((o + 64 * W : Nat) : Int) = (o : Int) + (W * 64 : Nat) by omega, hoi, Int.emod_add_emod, show (r : Int) - (W * 64 : Nat) + (W * 64 : Nat) = r by omega]
      exact Int.emod_eq_of_lt (by omega) (by omega)
    omega
  refine ⟨x <<< ((nI o).toInt64 &&& 63), ?_, fun j hj => ?_⟩
  · unfold RC_wordOf
    rw [show (64 : Int32) = nI 64 from rfl, pk_mul, leftBy_d (by omega) (by omega) (by omega) (by omega), bd_s, ← ho]
  · rw [lb_shl x (by omega) hj, ← off_bit h1 (by omega) hom]
    by_cases q : o ≤ j
    · rw [hx (j - o) (by omega)]
    · rw [decide_eq_false q, Bool.false_and, Bool.false_and]
/-- how many numbers class k alone takes -/
def onl (c on : Nat) (rs md : Nat → Nat) (S k : Nat) : Nat := fb_ct (fun y => decide (hb on rs md y c = 2 ^ k)) S
theorem onl_le (c on : Nat) (rs md : Nat → Nat) (S k : Nat) : onl c on rs md S k ≤ S := fb_ct_le _ _
section ALO
variable {σ : St} {c od on : Nat} {rs md nm : Nat → Nat}
theorem only_c {S : Nat} {a : Nat} (h : CV σ a c od on rs md nm) (w : WF c od on rs md nm) (g : Sq σ S (fun x => q1 on rs md x c) (fun x => q2 on rs md x c)) (hS : S ≤ 5040) {k : Nat} (hk : k < c) (hb : on.testBit k = true) : Si_countOnlyBy σ a (nI k) = some (nI (onl c on rs md S k)) := by
  have hc := w.1
  obtain ⟨m1, m2, m3⟩ := w.2.2.2.1 k hk
  obtain ⟨x, c1, c2⟩ := comb_n m1 m2
  have key : iter (fun u : (Int32 × Int32) => Si_countOnlyBy_L19 a (nI k) (nI (md k)) x σ u.1 u.2) FUEL (0, 0) = some (nI (onl c on rs md S k)) := by
    refine iter_for (body := fun u : (Int32 × Int32) => Si_countOnlyBy_L19 a (nI k) (nI (md k)) x σ u.1 u.2) (fun v => (nI (fb_ct (fun y => (decide (y % md k = rs k) && !q2 on rs md y c) && decide (y < S)) (64 * v)), nI v)) (lo := 0) (hi := (S + 63) / 64) (e := nI (onl c on rs md S k)) (n := FUEL) (Nat.zero_le _) (fuel (by omega)) ?_ ?_
    · intro v _ hv
      show Si_countOnlyBy_L19 a (nI k) (nI (md k)) x σ (nI (fb_ct (fun y => (decide (y % md k = rs k) && !q2 on rs md y c) && decide (y < S)) (64 * v))) (nI v) = some (.inl (nI (fb_ct (fun y => (decide (y % md k = rs k) && !q2 on rs md y c) && decide (y < S)) (64 * (v + 1))), nI (v + 1)))
      obtain ⟨y, y1, y2⟩ := word_n (W := v) m1 m2 m3 (by omega) c2
      obtain ⟨z, z1, z2⟩ := inside_n (S := S) (w := v) (by omega) hS
      have e : ∀ j, j < 64 → lb ((y &&& z) &&& (σ.2 33 v ^^^ (-1))) j = ((decide ((64 * v + j) % md k = rs k) && !q2 on rs md (64 * v + j) c) && decide (64 * v + j < S)) := fun j hj => by
        rw [lb_and, lb_and, lb_not _ hj, y2 j hj, z2 j hj, (g.2.2 v hv j hj).2]
        show ((decide ((64 * v + j) % md k = rs k) && decide (64 * v + j < S)) && !q2 on rs md (64 * v + j) c) = _
        cases decide ((64 * v + j) % md k = rs k) <;> cases q2 on rs md (64 * v + j) c <;> cases decide (64 * v + j < S) <;> rfl
      unfold Si_countOnlyBy_L19
      rw [g.2.1, if_neg (by rw [le_nI (by omega) (by omega)]; omega), ix_nI (by omega) (by omega), chk_true, tn_nI (by omega), h.2.2.2.1 k hk, y1, bd_s, g.1, z1, bd_s, bnd_x, ix_nI (by omega) (by omega), chk_true, tn_nI (by omega), bcL_l, bd_s, nI_add, bnd_x, bnd_x, nI_1, show 64 * (v + 1) = 64 * v + 64 by omega, fb_ct_split _ (64 * v) 64, fb_ct_cong (fun j hj => e j hj)]
    · show Si_countOnlyBy_L19 a (nI k) (nI (md k)) x σ (nI (fb_ct (fun y => (decide (y % md k = rs k) && !q2 on rs md y c) && decide (y < S)) (64 * ((S + 63) / 64)))) (nI ((S + 63) / 64)) = _
      unfold Si_countOnlyBy_L19
      rw [g.2.1, if_pos (by rw [le_nI (by omega) (by omega)]; omega), ct_cut (by omega), fb_ct_cong (fun y _ => only_eq hk hb)]
      rfl
  unfold Si_countOnlyBy
  rw [ix_nI (by omega) (by omega), chk_true, tn_nI (by omega), h.2.2.2.2.1 k hk, bnd_x, c1, bd_s, key, bd_s]
theorem only_m {S k : Nat} (hc : c ≤ 12) (hS : S ≤ 5040) (hk : k < 12) (h1 : σ.1 92 23 = nI S) (h2 : ∀ y, y < S → σ.1 101 y = nI (hb on rs md y c)) : Mo_justBy σ ((1 : Int32) <<< (nI k &&& 31)) = some (nI (onl c on rs md S k)) := by
  have p2 := p2_12 (k := k) (by omega)
  have := justBy_n (v := 2 ^ k) hS h1 h2 (fun y _ => by have := hb_4 on rs md y hc; omega) (by omega)
  rw [ctn_ct] at this
  rw [shl1 (by omega)]
  exact this
end ALO
theorem call_alone {σ : St} (I : Inv σ) (p : Int32) : Call (fun σ => RC_alone σ p) (fun σ => Mo_alone σ p) σ := by
  obtain ⟨c, od, on, rs, md, nm, hc, hm, w⟩ := I.2.2.2.2.1
  have hc12 := w.1
  by_cases hx : ix p c = true
  · obtain ⟨k, hk, rfl, hk2⟩ := ix_ex hx
    have h1 := isThere_g hc.1 (by omega) (nI k)
    rw [if_pos hx] at h1
    have h2 : ∀ {σ1}, MV σ1 0 0 c od on rs md nm → Mo_isClass σ1 (nI k) = some 1 := fun F => by rw [isClass_g F (by omega), if_pos hx]
    by_cases h0 : spn md on c = 0
    · refine call_w (r := 0) I ?_ (fun σ1 F => ?_)
      · show RC_alone σ (nI k) = _
        unfold RC_alone
        rw [h1, bd_s, if_neg (by decide), sieved_0 hc w h0, bd2_s, if_pos rfl, RC_deny_n, bd2_s, ckl0, chk_true]
      · show Mo_alone σ1 (nI k) = _
        unfold Mo_alone
        rw [h2 (hm.w2 F), bd_s, if_neg (by decide), laysNow_0 (hm.w2 F) w h0, bd2_s, if_pos rfl, Mo_is_n _ (by decide), bd2_s, ckl0, chk_true]
    obtain ⟨p1, p2⟩ := spn_pos h0
    obtain ⟨τ, a1, a2, a3, a4⟩ := sieved_n hc w h0
    by_cases hb : on.testBit k = true
    · have hg := onl_le c on rs md (spn md on c) k
      refine call_x I (a2.mono (fun a i q => Ac0.q a i (Asv.q a i q))) (r := 1) (x := lN (onl c on rs md (spn md on c) k / Nat.gcd (onl c on rs md (spn md on c) k) (spn md on c))) (y := lN (spn md on c / Nat.gcd (onl c on rs md (spn md on c) k) (spn md on c))) ?_ (fun σ1 F => ?_)
      · show RC_alone σ (nI k) = _
        unfold RC_alone
        rw [h1, bd_s, if_neg (by decide), a1, bd2_s, if_neg (by decide), isOn_n a3 w (by omega), bd_s, if_pos hb, if_neg (by decide), only_c a3 w a4 p2 hk hb, bd_s, a4.1, nI_l (by omega), nI_l (by omega), tell_c _ (by omega) p1 (by omega), bd2_s, ckl1, chk_true]
      · obtain ⟨υ, b1, b2, b3, b4, b5⟩ := laysNow_n (hm.w2 F) w h0
        refine ⟨υ, b2.mono (fun a i q => Am0.q a i (Aly.q a i q)), ?_⟩
        show Mo_alone σ1 (nI k) = _
        unfold Mo_alone
        rw [h2 (hm.w2 F), bd_s, if_neg (by decide), b1, bd2_s, if_neg (by decide), isOnM_n b3 w hk, bd_s, if_pos hb, if_neg (by decide), only_m hc12 p2 (by omega) b4 b5, bd_s, b4, nI_l (by omega), nI_l (by omega), tell_m _ (by omega) p1 (by omega), bd2_s, ckl1, chk_true]
    · refine call_v I (a2.mono Asv.q) (r := 0) (v := 6) ?_ (fun σ1 F => ?_)
      · show RC_alone σ (nI k) = _
        unfold RC_alone
        rw [h1, bd_s, if_neg (by decide), a1, bd2_s, if_neg (by decide), isOn_n a3 w (by omega), bd_s, if_neg hb, if_pos rfl, RC_deny_n, bd2_s, ckl0, chk_true]
      · obtain ⟨υ, b1, b2, b3, b4, b5⟩ := laysNow_n (hm.w2 F) w h0
        refine ⟨υ, b2.mono Aly.q, ?_⟩
        show Mo_alone σ1 (nI k) = _
        unfold Mo_alone
        rw [h2 (hm.w2 F), bd_s, if_neg (by decide), b1, bd2_s, if_neg (by decide), isOnM_n b3 w hk, bd_s, if_neg hb, if_pos rfl, Mo_is_n _ (by decide), bd2_s, ckl0, chk_true]
  · refine call_s (r := 0) (v := 1) I ?_ (fun σ1 F => ?_)
    · show RC_alone σ p = _
      unfold RC_alone
      rw [isThere_g hc.1 (by omega), if_neg hx, bd_s, if_pos rfl, RC_deny_n, bd2_s, ckl0, chk_true]
    · show Mo_alone σ1 p = _
      unfold Mo_alone
      rw [isClass_g (hm.w F) (by omega), if_neg hx, bd_s, if_pos rfl, Mo_is_n _ (by decide), bd2_s, ckl0, chk_true]
/-! needless -/
theorem and_m1 (x : Int32) : x &&& (-1) = x := by
  apply b_ext
  intro i hi
  rw [b_and, b_m1 i hi, Bool.and_true]
def ndp (c on : Nat) (rs md : Nat → Nat) (S k j : Nat) : Bool := on.testBit j && (decide (k ≤ j) || decide (onl c on rs md S j = 0))
theorem call_needless {σ : St} (I : Inv σ) : Call RC_needless Mo_needless σ := by
  obtain ⟨c, od, on, rs, md, nm, hc, hm, w⟩ := I.2.2.2.2.1
  have hc12 := w.1
  by_cases h0 : spn md on c = 0
  · refine call_w (r := -1) I ?_ (fun σ1 F => ?_)
    · unfold RC_needless
      rw [sieved_0 hc w h0, bd2_s, if_pos rfl, RC_refuse_n, bd2_s]
    · unfold Mo_needless
      rw [laysNow_0 (hm.w2 F) w h0, bd2_s, if_pos rfl, Mo_refuse_n, bd2_s]
  obtain ⟨p1, p2⟩ := spn_pos h0
  obtain ⟨τ, a1, a2, a3, a4⟩ := sieved_n hc w h0
  obtain ⟨S, hS⟩ : ∃ S, S = spn md on c := ⟨_, rfl⟩
  rw [← hS] at p1 p2 a4
  have hle : ∀ k, onl c on rs md S k ≤ 5040 := fun k => Nat.le_trans (onl_le c on rs md S k) p2
  obtain ⟨R, hR⟩ : ∃ R, R = bset (fun k => on.testBit k && decide (onl c on rs md S k = 0)) c := ⟨_, rfl⟩
  have kc : Si_needlessOf τ 7 = some (nI R) := by
    unfold Si_needlessOf
    have key := iter_for (body := fun u : (Int32 × Int32) => Si_needlessOf_L4 7 τ u.1 u.2) (fun k => (nI (bset (fun k => on.testBit k && decide (onl c on rs md S k = 0)) k), nI k)) (lo := 0) (hi := c) (e := nI R) (n := FUEL) (Nat.zero_le _) (fuel (by omega)) ?_ ?_
    · exact congrArg (fun o => bd o (fun v => some v)) key
    · intro k _ hk
      show Si_needlessOf_L4 7 τ (nI (bset (fun k => on.testBit k && decide (onl c on rs md S k = 0)) k)) (nI k) = some (.inl (nI (bset (fun k => on.testBit k && decide (onl c on rs md S k = 0)) (k + 1)), nI (k + 1)))
      have hl := hle k
      unfold Si_needlessOf_L4
      rw [a3.1, if_neg (by rw [le_nI (by omega) (by omega)]; omega), isOn_n a3 w (by omega), bd_s, bset_succ]
      by_cases hb : on.testBit k = true
      · rw [if_pos hb, if_neg (by decide), only_c a3 w a4 p2 hk hb, bd_s]
        by_cases z : onl c on rs md S k = 0
        · rw [if_pos (by rw [z]; rfl), bnd_x, bnd_x, shl1 (by omega), or_nI, bset_or, nI_1, if_pos (by simp [hb, z])]
        · rw [if_neg (by rw [show (0 : Int32) = nI 0 from rfl, eq_nI (by omega) (by omega)]; exact z), bnd_x, nI_1, if_neg (by simp [z])]
      · rw [if_neg hb, if_pos rfl, bnd_x, nI_1, if_neg (by simp [hb])]
    · show Si_needlessOf_L4 7 τ (nI (bset (fun k => on.testBit k && decide (onl c on rs md S k = 0)) c)) (nI c) = _
      unfold Si_needlessOf_L4
      rw [a3.1, if_pos (by rw [le_nI (by omega) (by omega)]; omega), hR]
  have ho := w.on4
  have km : ∀ {υ : St}, υ.1 92 23 = nI S → (∀ y, y < S → υ.1 101 y = nI (hb on rs md y c)) → iter (fun u : (Int32 × Int32) => Mo_needless_L21 υ u.1 u.2) FUEL (nI on, 0) = some (nI R) := by
    intro υ v1 v2
    have st0 : bset (ndp c on rs md S 0) 12 = on := by
      rw [bset_cong (q := fun k => on.testBit k) (fun k _ => by
        show (on.testBit k && (decide (0 ≤ k) || decide (onl c on rs md S k = 0))) = on.testBit k
        rw [decide_eq_true (Nat.zero_le k), Bool.true_or, Bool.and_true])]
      exact bset_self (by omega)
    have := iter_for (body := fun u : (Int32 × Int32) => Mo_needless_L21 υ u.1 u.2) (fun k => (nI (bset (ndp c on rs md S k) 12), nI k)) (lo := 0) (hi := 12) (e := nI R) (n := FUEL) (Nat.zero_le _) (fuel (by omega)) (by
      intro k _ hk
      show Mo_needless_L21 υ (nI (bset (ndp c on rs md S k) 12)) (nI k) = some (.inl (nI (bset (ndp c on rs md S (k + 1)) 12), nI (k + 1)))
      have hl := hle k
      unfold Mo_needless_L21
      rw [show (12 : Int32) = nI 12 from rfl, if_neg (by rw [le_nI (by omega) (by omega)]; omega), only_m hc12 p2 hk v1 v2, bd_s]
      by_cases z : onl c on rs md S k = 0
      · rw [if_pos (by rw [z]; decide), and_m1, bnd_x, bnd_x, nI_1, bset_cong (p := ndp c on rs md S k) (q := ndp c on rs md S (k + 1)) (fun j _ => by
          unfold ndp
          by_cases e : j = k
          · rw [e, z, decide_eq_true rfl, Bool.or_true, Bool.or_true]
          · rw [show decide (k ≤ j) = decide (k + 1 ≤ j) from decide_eq_decide.mpr (by omega)])]
      · rw [show (0 : Int32) = nI 0 from rfl, if_neg (by rw [le_nI (by omega) (by omega)]; omega), shl1 (by omega), m1_n, xor_nI, and_nI, bnd_x, bnd_x, nI_1]
        congr 4
        apply Nat.eq_of_testBit_eq
        intro i
        rw [Nat.testBit_and, bset_bit, bset_bit, Nat.testBit_xor, Nat.testBit_two_pow, show (4294967295 : Nat) = 2 ^ 32 - 1 from rfl, tb_ones]
        by_cases i12 : i < 12
        · rw [decide_eq_true i12, decide_eq_true (show i < 32 by omega)]
          unfold ndp
          by_cases e : k = i
          · subst e
            rw [decide_eq_true rfl, decide_eq_false z, decide_eq_false (show ¬ k + 1 ≤ k by omega)]
            simp
          · rw [decide_eq_false e, show decide (k ≤ i) = decide (k + 1 ≤ i) from decide_eq_decide.mpr (by omega)]
            simp
        · rw [decide_eq_false i12, Bool.false_and, Bool.false_and, Bool.false_and]) (by
      show Mo_needless_L21 υ (nI (bset (ndp c on rs md S 12) 12)) (nI 12) = _
      unfold Mo_needless_L21
      rw [if_pos (by decide)]
      congr 3
      rw [hR]
      apply Nat.eq_of_testBit_eq
      intro i
      rw [bset_bit, bset_bit]
      unfold ndp
      by_cases i12 : i < c
      · rw [decide_eq_true i12, decide_eq_true (show i < 12 by omega), decide_eq_false (show ¬ 12 ≤ i by omega), Bool.false_or]
      · rw [decide_eq_false i12, w.bit (by omega), Bool.false_and, Bool.false_and, Bool.and_false])
    rw [st0] at this
    exact this
  refine call_v I (a2.mono Asv.q) (r := nI R) (v := 0) ?_ (fun σ1 F => ?_)
  · unfold RC_needless
    rw [a1, bd2_s, if_neg (by decide), kc, bd_s, RC_answer_n, bd2_s]
  · obtain ⟨υ, b1, b2, b3, b4, b5⟩ := laysNow_n (hm.w2 F) w h0
    rw [← hS] at b4 b5
    refine ⟨υ, b2.mono Aly.q, ?_⟩
    unfold Mo_needless
    rw [b1, bd2_s, if_neg (by decide), onSet_n b3 w, bd_s, km b4 b5, bd_s, Mo_gives_n, bd2_s]
