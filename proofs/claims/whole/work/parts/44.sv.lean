/-! what the sieve tells -/
theorem q1_hb (s : Nat) (rs md : Nat → Nat) (x : Nat) : ∀ k, q1 s rs md x k = !decide (hb s rs md x k = 0)
  | 0 => rfl
  | k + 1 => by
    show (q1 s rs md x k || (s.testBit k && decide (x % md k = rs k))) = _
    rw [q1_hb s rs md x k, hb_succ]
    by_cases h : s.testBit k = true ∧ x % md k = rs k
    · have hne : ¬ hb s rs md x k ||| 2 ^ k = 0 := fun e => by
        have := or_bit (on := hb s rs md x k) (k := k) (j := k)
        rw [e, decide_eq_true rfl, Bool.or_true, Nat.zero_testBit] at this
        exact absurd this (by decide)
      rw [if_pos h, h.1, decide_eq_true h.2, decide_eq_false hne]
      simp
    · have : (s.testBit k && decide (x % md k = rs k)) = false := by simpa using h
      rw [if_neg h, this, Bool.or_false]
theorem inside_n {S w : Nat} (h : 64 * w < S) (hS : S ≤ 5040) : ∃ x, RC_insideOf (nI S) (nI w) = some x ∧ ∀ j, j < 64 → lb x j = decide (64 * w + j < S) := by
  unfold RC_insideOf
  rw [show (64 : Int32) = nI 64 from rfl, pk_mul, sub_nI (by omega), bnd_x]
  by_cases q : S - w * 64 < 64
  · obtain ⟨k, hk⟩ : ∃ k, k = S - w * 64 := ⟨_, rfl⟩
    rw [← hk] at q ⊢
    have e : (1 : Int64) <<< ((nI k).toInt64 &&& 63) - 1 = lN (2 ^ k - 1) := by
      have e1 : (1 : Int64) <<< ((nI k).toInt64 &&& 63) = lN (1 * 2 ^ k) := wb_shl 1 q
      rw [e1, Nat.one_mul]
      exact lN_sub (b := 1) Nat.one_le_two_pow
    refine ⟨lN (2 ^ k - 1), ?_, fun j hj => ?_⟩
    · rw [if_pos (by rw [lt_nI (by omega) (by omega)]; omega), show jmax 0 (nI k) = nI k from (jmax_nI (x := 0) (y := k) (by omega) (by omega)).trans (by rw [Nat.zero_max]), e]
    · rw [lb_N hj, tb_ones]
      by_cases z : j < k
      · rw [decide_eq_true z, decide_eq_true (by omega)]
      · rw [decide_eq_false z, decide_eq_false (by omega)]
  · refine ⟨-1, ?_, fun j hj => ?_⟩
    · rw [if_neg (by rw [lt_nI (by omega) (by omega)]; omega)]
    · rw [lb_m1 j hj, decide_eq_true (by omega)]
theorem lb_not (x : Int64) {j : Nat} (h : j < 64) : lb (x ^^^ (-1)) j = !lb x j := by
  rw [lb_xor, lb_m1 j h]
  cases lb x j <;> rfl
theorem open_n {τ : St} {S : Nat} {f1 f2 : Nat → Bool} (g : Sq τ S f1 f2) (hS : S ≤ 5040) {w : Nat} (hw : w < (S + 63) / 64) : ∃ x, Si_openIn τ (nI w) = some x ∧ ∀ j, j < 64 → lb x j = (!f1 (64 * w + j) && decide (64 * w + j < S)) := by
  obtain ⟨x, h1, h2⟩ := inside_n (S := S) (w := w) (by omega) hS
  refine ⟨(τ.2 32 w ^^^ (-1)) &&& x, ?_, fun j hj => ?_⟩
  · unfold Si_openIn
    rw [ix_nI (by omega) (by omega), chk_true, g.1, h1, bd_s, tn_nI (by omega)]
  · rw [lb_and, lb_not _ hj, h2 j hj, (g.2.2 w hw j hj).1]
theorem ct_cut {f : Nat → Bool} {S n : Nat} (h : S ≤ n) : fb_ct (fun y => f y && decide (y < S)) n = fb_ct f S := by
  obtain ⟨d, rfl⟩ : ∃ d, n = S + d := ⟨n - S, by omega⟩
  have h1 : fb_ct (fun y => f y && decide (y < S)) S = fb_ct f S := fb_ct_cong (fun k hk => by rw [decide_eq_true hk, Bool.and_true])
  have h2 : fb_ct (fun k => f (S + k) && decide (S + k < S)) d = 0 := fb_ct_zero.mpr (fun k _ => by rw [decide_eq_false (show ¬ S + k < S by omega), Bool.and_false])
  rw [fb_ct_split, h1, h2, Nat.add_zero]
theorem countGaps_n {τ : St} {S : Nat} {f1 f2 : Nat → Bool} (g : Sq τ S f1 f2) (hS : S ≤ 5040) : Si_countGaps τ = some (nI (fb_ct (fun y => !f1 y) S)) := by
  unfold Si_countGaps
  have key := iter_for (body := fun s : (Int32 × Int32) => Si_countGaps_L4 τ s.1 s.2) (fun w => (nI (fb_ct (fun y => !f1 y && decide (y < S)) (64 * w)), nI w)) (lo := 0) (hi := (S + 63) / 64) (e := nI (fb_ct (fun y => !f1 y) S)) (n := FUEL) (Nat.zero_le _) (fuel (by omega)) ?_ ?_
  · exact congrArg (fun o => bd o (fun v => some v)) key
  · intro w _ hw
    show Si_countGaps_L4 τ (nI (fb_ct (fun y => !f1 y && decide (y < S)) (64 * w))) (nI w) = some (.inl (nI (fb_ct (fun y => !f1 y && decide (y < S)) (64 * (w + 1))), nI (w + 1)))
    obtain ⟨x, h1, h2⟩ := open_n g hS hw
    unfold Si_countGaps_L4
    rw [g.2.1, if_neg (by rw [le_nI (by omega) (by omega)]; omega), h1, bd_s, bcL_l, bd_s, nI_add, bnd_x, bnd_x, nI_1, show 64 * (w + 1) = 64 * w + 64 by omega, fb_ct_split _ (64 * w) 64, fb_ct_cong (fun j hj => h2 j hj)]
  · show Si_countGaps_L4 τ (nI (fb_ct (fun y => !f1 y && decide (y < S)) (64 * ((S + 63) / 64)))) (nI ((S + 63) / 64)) = _
    unfold Si_countGaps_L4
    rw [g.2.1, if_pos (by rw [le_nI (by omega) (by omega)]; omega), ct_cut (by omega)]
/-! telling fractions -/
theorem tell_c (σ : St) {a b : Nat} (ha : a < 9223372036854775808) (h0 : 0 < b) (hb : b < 9223372036854775808) : RC_tell σ (lN a) (lN b) = some (1, wI (wL (wL σ 0 1 (lN (a / Nat.gcd a b))) 0 2 (lN (b / Nat.gcd a b))) 0 0 0) := by
  have g0 : 0 < Nat.gcd a b := Nat.gcd_pos_of_pos_right _ h0
  have g1 : Nat.gcd a b ≤ b := Nat.gcd_le_right _ h0
  unfold RC_tell
  rw [gcdL_n ha hb, bd_s, partByL_n g0 (by omega) ha, bd_s, bnd_x, partByL_n g0 (by omega) hb, bd_s, bnd_x, RC_agree_n, bd2_s, ckl1, chk_true]
theorem tell_m (σ : St) {a b : Nat} (ha : a < 9223372036854775808) (h0 : 0 < b) (hb : b < 9223372036854775808) : Mo_tellsBy σ (lN a) (lN b) = some (1, wI (wL (wL σ 92 3 (lN (a / Nat.gcd a b))) 92 4 (lN (b / Nat.gcd a b))) 92 2 0) := by
  have g0 : 0 < Nat.gcd a b := Nat.gcd_pos_of_pos_right _ h0
  have g1 : Nat.gcd a b ≤ b := Nat.gcd_le_right _ h0
  have hg : ∀ a b : Nat, Nat.gcd b (a % b) = Nat.gcd a b := fun a b => by rw [Nat.gcd_comm a b, Nat.gcd_rec b a, Nat.gcd_comm]
  have h00 : ∀ x, iter (fun s : (Int64 × Int64) => Mo_tellsBy_L6 (lN a) (lN b) σ s.1 s.2) 1 (lN x, lN 0) = some (lN (Nat.gcd x 0)) := fun x => by
    rw [iter_exit (e := lN x) ?_, Nat.gcd_zero_right]
    show Mo_tellsBy_L6 (lN a) (lN b) σ (lN x) (lN 0) = _
    unfold Mo_tellsBy_L6
    rw [if_pos (show lN 0 = 0 from rfl)]
  have hst : ∀ x y f, 0 < y → x < 9223372036854775808 → y < 9223372036854775808 → iter (fun s : (Int64 × Int64) => Mo_tellsBy_L6 (lN a) (lN b) σ s.1 s.2) (f + 1) (lN x, lN y) = iter (fun s : (Int64 × Int64) => Mo_tellsBy_L6 (lN a) (lN b) σ s.1 s.2) f (lN y, lN (x % y)) := by
    intro x y f hy hx hy2
    refine iter_step ?_
    show Mo_tellsBy_L6 (lN a) (lN b) σ (lN x) (lN y) = _
    unfold Mo_tellsBy_L6
    rw [show (0 : Int64) = lN 0 from rfl, if_neg (fun e => by have := (pk_lEQ (a := y) (b := 0) hy2 (by omega)).mp e; omega), nz_lN hy hy2, chk_true, bnd_x]
    have : jreml (lN x) (lN y) = lN (x % y) := pk_lRem hx hy hy2
    rw [this]
  have key : ∀ n, (∀ x y f, y < gfib n → n < f → x < 9223372036854775808 → y < 9223372036854775808 → iter (fun s : (Int64 × Int64) => Mo_tellsBy_L6 (lN a) (lN b) σ s.1 s.2) f (lN x, lN y) = some (lN (Nat.gcd x y))) ∧ (∀ x y f, y < gfib (n + 1) → n + 1 < f → x < 9223372036854775808 → y < 9223372036854775808 → iter (fun s : (Int64 × Int64) => Mo_tellsBy_L6 (lN a) (lN b) σ s.1 s.2) f (lN x, lN y) = some (lN (Nat.gcd x y))) := by
    intro n
    induction n with
    | zero =>
      refine ⟨fun x y f hy hf hx hy2 => ?_, fun x y f hy hf hx hy2 => ?_⟩
      · have : y = 0 := by have : gfib 0 = 1 := rfl; omega
        subst this
        exact iter_mono (h00 x) (by omega)
      · by_cases hz : y = 0
        · subst hz; exact iter_mono (h00 x) (by omega)
        · have : y = 1 := by have : gfib (0 + 1) = 2 := rfl; omega
          subst this
          obtain ⟨f', rfl⟩ : ∃ f', f = f' + 1 := ⟨f - 1, by omega⟩
          rw [hst x 1 f' (by omega) hx hy2, Nat.mod_one, iter_mono (h00 1) (by omega), Nat.gcd_zero_right, Nat.gcd_one_right]
    | succ n ih =>
      refine ⟨ih.2, fun x y f hy hf hx hy2 => ?_⟩
      by_cases hz : y = 0
      · subst hz; exact iter_mono (h00 x) (by omega)
      · obtain ⟨f', rfl⟩ : ∃ f', f = f' + 1 := ⟨f - 1, by omega⟩
        have hr : x % y < y := Nat.mod_lt _ (by omega)
        rw [hst x y f' (by omega) hx hy2, ← hg x y]
        by_cases hq : x % y < gfib (n + 1)
        · exact ih.2 y (x % y) f' hq (by omega) hy2 (by omega)
        · by_cases hz2 : x % y = 0
          · rw [hz2]; exact iter_mono (h00 y) (by omega)
          · obtain ⟨f2, rfl⟩ : ∃ f2, f' = f2 + 1 := ⟨f' - 1, by omega⟩
            rw [hst y (x % y) f2 (by omega) hy2 (by omega), ← hg y (x % y)]
            have hlt : y % (x % y) < gfib n := by
              have e1 : y % (x % y) ≤ y - x % y := by
                rw [Nat.mod_eq_sub_mod (by omega)]
                exact Nat.mod_le _ _
              have e2 : gfib (n + 2) = gfib (n + 1) + gfib n := rfl
              have : y < gfib (n + 2) := hy
              omega
            exact ih.1 (x % y) (y % (x % y)) f2 hlt (by omega) (by omega) (by have := Nat.mod_lt y (show 0 < x % y by omega); omega)
  have it := (key 91).1 a b FUEL (Nat.lt_of_lt_of_le hb (by decide +kernel)) (fuel (by omega)) ha hb
  unfold Mo_tellsBy
  rw [it, bd_s, nz_lN g0 (by omega), chk_true, pk_lDiv ha g0 (by omega), bnd_x, chk_true, pk_lDiv hb g0 (by omega), bnd_x, Mo_is_0, bd2_s, ckl1, chk_true]
/-! calls on the sieve -/
theorem call_w {α : Type} {f g : St → Option (α × St)} {σ : St} {r : α} (I : Inv σ) (hf : f σ = some (r, wI σ 0 0 7)) (hg : ∀ σ1, Fp Ac σ σ1 → g σ1 = some (r, wI (wI σ1 92 23 (-1)) 92 2 7)) : Call f g σ :=
  call_q I hf Fc_w wI_s (hg _ (Fc_w.mono Ac0.q)) ((Fp.rf.wI (by unfold Am0; omega)).wI (by unfold Am0; omega)) wI_s
theorem call_v {α : Type} {f g : St → Option (α × St)} {σ τ : St} {r : α} {v : Int32} (I : Inv σ) (Fτ : Fp Ac0 σ τ) (hf : f σ = some (r, wI τ 0 0 v)) (hg : ∀ σ1, Fp Ac σ σ1 → ∃ υ, Fp Am0 σ1 υ ∧ g σ1 = some (r, wI υ 92 2 v)) : Call f g σ := by
  have F1 : Fp Ac0 σ (wI τ 0 0 v) := Fτ.wI (by unfold Ac0; omega)
  obtain ⟨υ, h1, h2⟩ := hg _ (F1.mono Ac0.q)
  exact call_q I hf F1 wI_s h2 (h1.wI (by unfold Am0; omega)) wI_s
theorem call_x {α : Type} {f g : St → Option (α × St)} {σ τ : St} {r : α} {x y : Int64} (I : Inv σ) (Fτ : Fp Ac σ τ) (hf : f σ = some (r, wI (wL (wL τ 0 1 x) 0 2 y) 0 0 0)) (hg : ∀ σ1, Fp Ac σ σ1 → ∃ υ, Fp Am σ1 υ ∧ g σ1 = some (r, wI (wL (wL υ 92 3 x) 92 4 y) 92 2 0)) : Call f g σ := by
  have F1 : Fp Ac σ (wI (wL (wL τ 0 1 x) 0 2 y) 0 0 0) := ((Fτ.wL (by unfold Ac; omega)).wL (by unfold Ac; omega)).wI (by unfold Ac; omega)
  obtain ⟨υ, h1, h2⟩ := hg _ F1
  refine call_t I hf F1 h2 (((h1.wL (by unfold Am; omega)).wL (by unfold Am; omega)).wI (by unfold Am; omega)) ?_ ?_ ?_
  · rw [wI_s, wI_s]
  · rw [wI_2, wL_ne (by omega), wL_s, wI_2, wL_ne (by omega), wL_s]
  · rw [wI_2, wL_s, wI_2, wL_s]
theorem MV.w2 {σ σ1 : St} {o q c od on : Nat} {rs md nm : Nat → Nat} (h : MV σ o q c od on rs md nm) (F : Fp Ac σ σ1) : MV σ1 o q c od on rs md nm := h.keep (F.sm (fun b i q1 q2 q => by unfold Ac at q; omega))
theorem MV.w3 {σ σ1 : St} {o q c od on : Nat} {rs md nm : Nat → Nat} (h : MV σ o q c od on rs md nm) (F : Fp Am σ σ1) : MV σ1 o q c od on rs md nm := h.keep (F.sm (fun b i q1 q2 q => by unfold Am at q; omega))
def Asv (a i : Nat) : Prop := (a = 31 ∧ (i = 3 ∨ i = 4)) ∨ a = 32 ∨ a = 33
def Aly (a i : Nat) : Prop := (a = 92 ∧ i = 23) ∨ a = 101
theorem Asv.q (a i : Nat) (h : Asv a i) : Ac0 a i := by unfold Asv at h; unfold Ac0; omega
theorem Aly.q (a i : Nat) (h : Aly a i) : Am0 a i := by unfold Aly at h; unfold Am0; omega
section SVC
variable {σ : St} {c od on : Nat} {rs md nm : Nat → Nat}
theorem sieved_0 (h : CV σ 7 c od on rs md nm) (w : WF c od on rs md nm) (h0 : spn md on c = 0) : RC_sieved σ = some (0, σ) := by
  unfold RC_sieved
  rw [h.2.1, fillC_0 h w w.on4 h0, bd2_s, ckl0, chk_true]
theorem sieved_n (h : CV σ 7 c od on rs md nm) (w : WF c od on rs md nm) (h0 : ¬ spn md on c = 0) : ∃ τ, RC_sieved σ = some (1, τ) ∧ Fp Asv σ τ ∧ CV τ 7 c od on rs md nm ∧ Sq τ (spn md on c) (fun x => q1 on rs md x c) (fun x => q2 on rs md x c) := by
  obtain ⟨τ, h1, h2⟩ := fillC_n h (by omega) w w.on4 h0
  have F : Fp Asv σ τ := (fp_Si_fill (A := Asv) (Fp.rf (σ := σ)) (by unfold Asv; omega) (by unfold Asv; omega) (fun i => by unfold Asv; omega) (fun i => by unfold Asv; omega) _ h1).2
  refine ⟨τ, ?_, F, h.keep (F.sm (fun b i q1 q2 q => by unfold Asv at q; omega)), h2⟩
  unfold RC_sieved
  rw [h.2.1, h1, bd2_s, ckl1, chk_true]
theorem laysNow_0 (h : MV σ 0 0 c od on rs md nm) (w : WF c od on rs md nm) (h0 : spn md on c = 0) : Mo_laysNow σ = some (0, wI σ 92 23 (-1)) := by
  unfold Mo_laysNow
  rw [onSet_n h w, bd_s, lays_0 h w w.on4 h0, bd2_s, ckl0, chk_true]
theorem laysNow_n (h : MV σ 0 0 c od on rs md nm) (w : WF c od on rs md nm) (h0 : ¬ spn md on c = 0) : ∃ υ, Mo_laysNow σ = some (1, υ) ∧ Fp Aly σ υ ∧ MV υ 0 0 c od on rs md nm ∧ υ.1 92 23 = nI (spn md on c) ∧ ∀ y, y < spn md on c → υ.1 101 y = nI (hb on rs md y c) := by
  obtain ⟨υ, h1, h2, h3⟩ := lays_n h w w.on4 h0
  have F : Fp Aly σ υ := (fp_Mo_lays (A := Aly) (Fp.rf (σ := σ)) (fun i => by unfold Aly; omega) (by unfold Aly; omega) _ h1).2
  refine ⟨υ, ?_, F, h.keep (F.sm (fun b i q1 q2 q => by unfold Aly at q; omega)), h2, h3⟩
  unfold Mo_laysNow
  rw [onSet_n h w, bd_s, h1, bd2_s, ckl1, chk_true]
/-- how many gaps -/
def gpn (c on : Nat) (rs md : Nat → Nat) (S : Nat) : Nat := fb_ct (fun y => decide (hb on rs md y c = 0)) S
theorem gpn_le (c on : Nat) (rs md : Nat → Nat) (S : Nat) : gpn c on rs md S ≤ S := fb_ct_le _ _
theorem gaps_c {S s : Nat} {f2 : Nat → Bool} (g : Sq σ S (fun x => q1 s rs md x c) f2) (hS : S ≤ 5040) : Si_countGaps σ = some (nI (gpn c s rs md S)) := by
  rw [countGaps_n g hS]
  unfold gpn
  rw [fb_ct_cong (q := fun y => decide (hb s rs md y c = 0)) (fun y _ => by
    show (!q1 s rs md y c) = _
    rw [q1_hb, Bool.not_not])]
theorem hb_4 (s : Nat) (rs md : Nat → Nat) (x : Nat) {c : Nat} (hc : c ≤ 12) : hb s rs md x c < 4096 := bset_4 _ hc
theorem gaps_m {S s : Nat} (hc : c ≤ 12) (hS : S ≤ 5040) (h1 : σ.1 92 23 = nI S) (h2 : ∀ y, y < S → σ.1 101 y = nI (hb s rs md y c)) : Mo_justBy σ 0 = some (nI (gpn c s rs md S)) := by
  have := justBy_n (v := 0) hS h1 h2 (fun y _ => by have := hb_4 s rs md y hc; omega) (by omega)
  rw [ctn_ct] at this
  exact this
end SVC
theorem spn_pos {md : Nat → Nat} {s c : Nat} (h : ¬ spn md s c = 0) : 1 ≤ spn md s c ∧ spn md s c ≤ 5040 := ⟨by omega, spn_le md s c⟩
/-! gaps -/
theorem call_gaps {σ : St} (I : Inv σ) : Call RC_gaps Mo_gaps σ := by
  obtain ⟨c, od, on, rs, md, nm, hc, hm, w⟩ := I.2.2.2.2.1
  by_cases h0 : spn md on c = 0
  · refine call_w (r := 0) I ?_ (fun σ1 F => ?_)
    · unfold RC_gaps
      rw [sieved_0 hc w h0, bd2_s, if_pos rfl, RC_deny_n, bd2_s, ckl0, chk_true]
    · unfold Mo_gaps
      rw [laysNow_0 (hm.w2 F) w h0, bd2_s, if_pos rfl, Mo_is_n _ (by decide), bd2_s, ckl0, chk_true]
  · obtain ⟨p1, p2⟩ := spn_pos h0
    have hg := gpn_le c on rs md (spn md on c)
    obtain ⟨τ, a1, a2, a3, a4⟩ := sieved_n hc w h0
    refine call_x I (a2.mono (fun a i q => Ac0.q a i (Asv.q a i q))) (r := 1) (x := lN (gpn c on rs md (spn md on c) / Nat.gcd (gpn c on rs md (spn md on c)) (spn md on c))) (y := lN (spn md on c / Nat.gcd (gpn c on rs md (spn md on c)) (spn md on c))) ?_ (fun σ1 F => ?_)
    · unfold RC_gaps
      rw [a1, bd2_s, if_neg (by decide), gaps_c a4 p2, bd_s, a4.1, nI_l (by omega), nI_l (by omega), tell_c _ (by omega) p1 (by omega), bd2_s, ckl1, chk_true]
    · obtain ⟨υ, b1, b2, b3, b4, b5⟩ := laysNow_n (hm.w2 F) w h0
      refine ⟨υ, b2.mono (fun a i q => Am0.q a i (Aly.q a i q)), ?_⟩
      unfold Mo_gaps
      rw [b1, bd2_s, if_neg (by decide), gaps_m w.1 p2 b4 b5, bd_s, b4, nI_l (by omega), nI_l (by omega), tell_m _ (by omega) p1 (by omega), bd2_s, ckl1, chk_true]
