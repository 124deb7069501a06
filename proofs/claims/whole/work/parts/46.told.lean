theorem call_told {σ : St} (I : Inv σ) (p : Int32) : Call (fun σ => RC_told σ p) (fun σ => Mo_told σ p) σ := by
  obtain ⟨c, od, on, rs, md, nm, hc, hm, w⟩ := I.2.2.2.2.1
  rcases within_ex p (lo := 0) (hi := 7) 0 7 rfl rfl (by omega) with h | ⟨n, _, hn, rfl, h⟩
  · have hh := within_no h
    refine call_s (r := -1) (v := 1) I ?_ (fun σ1 F => ?_)
    · show RC_told σ p = _
      unfold RC_told
      rw [if_neg (fun e => by rw [e] at hh; exact absurd hh (by decide)), if_neg (fun e => by rw [e] at hh; exact absurd hh (by decide)), if_neg (fun e => by rw [e] at hh; exact absurd hh (by decide)), if_neg (fun e => by rw [e] at hh; exact absurd hh (by decide)), if_neg (fun e => by rw [e] at hh; exact absurd hh (by decide)), if_neg (fun e => by rw [e] at hh; exact absurd hh (by decide)), if_neg (fun e => by rw [e] at hh; exact absurd hh (by decide)), if_neg (fun e => by rw [e] at hh; exact absurd hh (by decide)), RC_refuse_n, bd2_s]
    · show Mo_told σ1 p = _
      unfold Mo_told
      rw [isFrom_w, h, bd_s, if_pos (by decide), Mo_refuse_n, bd2_s]
  have h2 : n ≤ 2 → nI n ≤ 2 := fun z => by rw [show (2 : Int32) = nI 2 from rfl, le_nI (by omega) (by omega)]; exact z
  have h6 : 6 ≤ n → 6 ≤ nI n := fun z => by rw [show (6 : Int32) = nI 6 from rfl, le_nI (by omega) (by omega)]; exact z
  by_cases hs : 3 ≤ n ∧ n ≤ 5
  · have e1 : RC_told σ (nI n) = bd2 (RC_toldBySpan σ (nI n)) (fun r14 σ15 => some (r14, σ15)) := by
      unfold RC_told
      rcases (show n = 3 ∨ n = 4 ∨ n = 5 by omega) with rfl | rfl | rfl
      · rw [if_neg (by decide), if_neg (by decide), if_neg (by decide), if_pos (by decide)]
      · rw [if_neg (by decide), if_neg (by decide), if_neg (by decide), if_neg (by decide), if_pos (by decide)]
      · rw [if_neg (by decide), if_neg (by decide), if_neg (by decide), if_neg (by decide), if_neg (by decide), if_pos (by decide)]
    have z1 : ¬ nI n ≤ 2 := by rw [show (2 : Int32) = nI 2 from rfl, le_nI (by omega) (by omega)]; omega
    have z2 : ¬ 6 ≤ nI n := by rw [show (6 : Int32) = nI 6 from rfl, le_nI (by omega) (by omega)]; omega
    by_cases h0 : spn md on c = 0
    · refine call_w (r := -1) I ?_ (fun σ1 F => ?_)
      · show RC_told σ (nI n) = _
        rw [e1]
        unfold RC_toldBySpan
        rw [sieved_0 hc w h0, bd2_s, if_pos (by decide), RC_refuse_n, bd2_s, bd2_s]
      · show Mo_told σ1 (nI n) = _
        unfold Mo_told
        rw [isFrom_w, h, bd_s, if_neg (by decide), if_neg z1, if_neg z2, laysNow_0 (hm.w2 F) w h0, bd2_s, if_pos (by decide), Mo_refuse_n, bd2_s]
    · obtain ⟨p1, p2⟩ := spn_pos h0
      have hg := gpn_le c on rs md (spn md on c)
      obtain ⟨τ, a1, a2, a3, a4⟩ := sieved_n hc w h0
      obtain ⟨G, hG⟩ : ∃ G, G = gpn c on rs md (spn md on c) := ⟨_, rfl⟩
      have gc := gaps_c a4 p2
      rw [← hG] at gc hg
      refine call_v I (a2.mono Asv.q) (r := if n = 3 then nI (spn md on c) else if n = 4 then nI G else if G = 0 then 1 else 0) (v := 0) ?_ (fun σ1 F => ?_)
      · show RC_told σ (nI n) = _
        rw [e1]
        unfold RC_toldBySpan
        rw [a1, bd2_s, if_neg (by decide), gc, bd_s, a4.1]
        rcases (show n = 3 ∨ n = 4 ∨ n = 5 by omega) with rfl | rfl | rfl
        · rw [if_pos (show nI 3 = 3 from rfl), RC_answer_n, bd2_s, bd2_s, if_pos (by decide)]
        · rw [if_neg (by decide), if_pos (show nI 4 = 4 from rfl), RC_answer_n, bd2_s, bd2_s, if_neg (by decide), if_pos (by decide)]
        · rw [if_neg (by decide), if_neg (by decide)]
          by_cases z : G = 0
          · rw [if_pos (by rw [z]; rfl), RC_answer_n, bd2_s, bd2_s, if_neg (by decide), if_neg (by decide), if_pos z]
          · rw [if_neg (by rw [show (0 : Int32) = nI 0 from rfl, eq_nI (by omega) (by omega)]; exact z), RC_answer_n, bd2_s, bd2_s, if_neg (by decide), if_neg (by decide), if_neg z]
      · obtain ⟨υ, b1, b2, b3, b4, b5⟩ := laysNow_n (hm.w2 F) w h0
        have gm := gaps_m w.1 p2 b4 b5
        rw [← hG] at gm
        refine ⟨υ, b2.mono Aly.q, ?_⟩
        show Mo_told σ1 (nI n) = _
        unfold Mo_told
        rw [isFrom_w, h, bd_s, if_neg (by decide), if_neg z1, if_neg z2, b1, bd2_s, if_neg (by decide)]
        unfold Mo_told_J43
        rw [gm, bd_s, bd_s, b4]
        rcases (show n = 3 ∨ n = 4 ∨ n = 5 by omega) with rfl | rfl | rfl
        · rw [if_neg (by decide), if_neg (by decide), if_neg (by decide), if_pos (show nI 3 = 3 from rfl), Mo_gives_n, bd2_s, if_pos (by decide)]
        · rw [if_neg (by decide), if_neg (by decide), if_neg (by decide), if_neg (by decide), if_pos (show nI 4 = 4 from rfl), Mo_gives_n, bd2_s, if_neg (by decide), if_pos (by decide)]
        · rw [if_neg (by decide), if_neg (by decide), if_neg (by decide), if_neg (by decide), if_neg (by decide), if_pos (show nI 5 = 5 from rfl)]
          by_cases z : G = 0
          · rw [if_pos (by rw [z]; rfl), Mo_gives_n, bd2_s, if_neg (by decide), if_neg (by decide), if_pos z]
          · rw [if_neg (by rw [show (0 : Int32) = nI 0 from rfl, eq_nI (by omega) (by omega)]; exact z), Mo_gives_n, bd2_s, if_neg (by decide), if_neg (by decide), if_neg z]
  · rcases (show n = 0 ∨ n = 1 ∨ n = 2 ∨ n = 6 ∨ n = 7 by omega) with rfl | rfl | rfl | rfl | rfl
    · refine call_s (r := nI c) (v := 0) I ?_ (fun σ1 F => ?_)
      · show RC_told σ (nI 0) = _
        unfold RC_told
        rw [if_pos (by decide), hc.1, RC_answer_n, bd2_s]
      · show Mo_told σ1 (nI 0) = _
        unfold Mo_told
        rw [isFrom_w, h, bd_s, if_neg (by decide), if_pos (h2 (by omega))]
        unfold Mo_told_J43
        rw [if_pos (by decide), ix00, chk_true, tn00, (hm.w F).c0, Mo_gives_n, bd2_s]
    · refine call_s (r := nI od) (v := 0) I ?_ (fun σ1 F => ?_)
      · show RC_told σ (nI 1) = _
        unfold RC_told
        rw [if_neg (by decide), if_pos (by decide), hc.2.2.1, RC_answer_n, bd2_s]
      · show Mo_told σ1 (nI 1) = _
        have h1 : σ1.1 93 (tn 1) = nI od := (hm.w F).2.1
        unfold Mo_told
        rw [isFrom_w, h, bd_s, if_neg (by decide), if_pos (h2 (by omega))]
        unfold Mo_told_J43
        rw [if_neg (by decide), if_pos (by decide), show ix 1 2060 = true from by decide, chk_true, h1, Mo_gives_n, bd2_s]
    · refine call_s (r := nI on) (v := 0) I ?_ (fun σ1 F => ?_)
      · show RC_told σ (nI 2) = _
        unfold RC_told
        rw [if_neg (by decide), if_neg (by decide), if_pos (by decide), hc.2.1, RC_answer_n, bd2_s]
      · show Mo_told σ1 (nI 2) = _
        unfold Mo_told
        rw [isFrom_w, h, bd_s, if_neg (by decide), if_pos (h2 (by omega))]
        unfold Mo_told_J43
        rw [if_neg (by decide), if_neg (by decide), if_pos (by decide), onSet_n (hm.w F) w, bd_s, Mo_gives_n, bd2_s]
    · refine call_s (r := nI (fb_sm (cpl on rs md) c)) (v := 0) I ?_ (fun σ1 F => ?_)
      · show RC_told σ (nI 6) = _
        unfold RC_told
        rw [if_neg (by decide), if_neg (by decide), if_neg (by decide), if_neg (by decide), if_neg (by decide), if_neg (by decide), if_pos (by decide), couples_c hc w, bd_s, RC_answer_n, bd2_s]
      · show Mo_told σ1 (nI 6) = _
        unfold Mo_told
        rw [isFrom_w, h, bd_s, if_neg (by decide), if_neg (by decide), if_pos (h6 (by omega))]
        unfold Mo_told_J43
        rw [if_neg (by decide), if_neg (by decide), if_neg (by decide), if_neg (by decide), if_neg (by decide), if_neg (by decide), if_pos (by decide), couples_m (hm.w F) w, bd_s, Mo_gives_n, bd2_s]
    · refine call_s (r := if fa_first (lkb on md) c < c then 0 else 1) (v := 0) I ?_ (fun σ1 F => ?_)
      · show RC_told σ (nI 7) = _
        unfold RC_told
        rw [if_neg (by decide), if_neg (by decide), if_neg (by decide), if_neg (by decide), if_neg (by decide), if_neg (by decide), if_neg (by decide), if_pos (by decide), unlike_c hc w, bd_s]
        by_cases z : fa_first (lkb on md) c < c
        · rw [if_pos z, if_pos (by decide), RC_answer_n, bd2_s]
        · rw [if_neg z, if_neg (by decide), RC_answer_n, bd2_s]
      · show Mo_told σ1 (nI 7) = _
        unfold Mo_told
        rw [isFrom_w, h, bd_s, if_neg (by decide), if_neg (by decide), if_pos (h6 (by omega))]
        unfold Mo_told_J43
        rw [if_neg (by decide), if_neg (by decide), if_neg (by decide), if_neg (by decide), if_neg (by decide), if_neg (by decide), if_neg (by decide), unlike_m (hm.w F) w, bd_s]
        by_cases z : fa_first (lkb on md) c < c
        · rw [if_pos z, if_pos (by decide), Mo_gives_n, bd2_s]
        · rw [if_neg z, if_neg (by decide), Mo_gives_n, bd2_s]
/-! weight -/
def wgt (on : Nat) (md : Nat → Nat) (S k : Nat) : Nat := if on.testBit k then S / md k else 0
theorem wgt_le (on : Nat) (md : Nat → Nat) (S k : Nat) : wgt on md S k ≤ S := by
  unfold wgt
  split
  · exact Nat.div_le_self _ _
  · omega
theorem call_weight {σ : St} (I : Inv σ) : Call RC_weight Mo_weight σ := by
  obtain ⟨c, od, on, rs, md, nm, hc, hm, w⟩ := I.2.2.2.2.1
  have hc12 := w.1
  have ho := w.on4
  have hsp := spanOf_n hc w (s := on) (by omega)
  by_cases h0 : spn md on c = 0
  · refine call_w (r := 0) I ?_ (fun σ1 F => ?_)
    · unfold RC_weight
      rw [hc.2.1, hsp, bd_s, h0, if_pos (by decide), RC_deny_n, bd2_s, ckl0, chk_true]
    · unfold Mo_weight
      rw [laysNow_0 (hm.w2 F) w h0, bd2_s, if_pos (by decide), Mo_is_n _ (by decide), bd2_s, ckl0, chk_true]
  · obtain ⟨p1, p2⟩ := spn_pos h0
    obtain ⟨S, hS⟩ : ∃ S, S = spn md on c := ⟨_, rfl⟩
    obtain ⟨N, hN⟩ : ∃ N, N = fb_sm (wgt on md S) c := ⟨_, rfl⟩
    have hNb : N ≤ 12 * 5040 := by
      rw [hN]
      have := fb_sm_bound (f := wgt on md S) (c := S) (n := c) (fun k _ => wgt_le on md S k)
      exact Nat.le_trans this (Nat.mul_le_mul hc12 (by omega))
    have kc : Cl_caughtTimes σ 7 (nI S) = some (nI N) := by
      unfold Cl_caughtTimes
      have key := iter_for (body := fun u : (Int32 × Int32) => Cl_caughtTimes_L4 7 (nI S) σ u.1 u.2) (fun k => (nI (fb_sm (wgt on md S) k), nI k)) (lo := 0) (hi := c) (e := nI N) (n := FUEL) (Nat.zero_le _) (fuel (by omega)) ?_ ?_
      · exact congrArg (fun o => bd o (fun v => some v)) key
      · intro k _ hk
        show Cl_caughtTimes_L4 7 (nI S) σ (nI (fb_sm (wgt on md S) k)) (nI k) = some (.inl (nI (fb_sm (wgt on md S) (k + 1)), nI (k + 1)))
        obtain ⟨m1, m2, m3⟩ := w.2.2.2.1 k hk
        unfold Cl_caughtTimes_L4
        rw [hc.1, if_neg (by rw [le_nI (by omega) (by omega)]; omega), isOn_n hc w (by omega), bd_s, fb_sm_succ]
        unfold wgt
        by_cases hb : on.testBit k = true
        · rw [if_pos hb, if_neg (by decide), ix_nI (by omega) (by omega), chk_true, tn_nI (by omega), hc.2.2.2.2.1 k hk, partBy_n (by omega) (by omega) (by omega), bd_s, nI_add, bnd_x, bnd_x, nI_1, if_pos hb]
        · rw [if_neg hb, if_pos (by decide), bnd_x, nI_1, if_neg hb]
          rfl
      · show Cl_caughtTimes_L4 7 (nI S) σ (nI (fb_sm (wgt on md S) c)) (nI c) = _
        unfold Cl_caughtTimes_L4
        rw [hc.1, if_pos (by rw [le_nI (by omega) (by omega)]; omega), hN]
    have km : ∀ {υ : St}, MV υ 0 0 c od on rs md nm → υ.1 92 23 = nI S → iter (fun u : (Int32 × Int32) => Mo_weight_L18 υ u.1 u.2) FUEL (0, 0) = some (nI N) := by
      intro υ hv hs
      refine iter_for (body := fun u : (Int32 × Int32) => Mo_weight_L18 υ u.1 u.2) (fun k => (nI (fb_sm (wgt on md S) k), nI k)) (lo := 0) (hi := c) (e := nI N) (n := FUEL) (Nat.zero_le _) (fuel (by omega)) ?_ ?_
      · intro k _ hk
        show Mo_weight_L18 υ (nI (fb_sm (wgt on md S) k)) (nI k) = some (.inl (nI (fb_sm (wgt on md S) (k + 1)), nI (k + 1)))
        obtain ⟨m1, m2, m3⟩ := w.2.2.2.1 k hk
        unfold Mo_weight_L18
        rw [ix00, chk_true, tn00, hv.c0, if_neg (by rw [le_nI (by omega) (by omega)]; omega), isOnM_n hv w hk, bd_s, fb_sm_succ]
        unfold wgt
        by_cases hb : on.testBit k = true
        · rw [if_pos hb, if_neg (by decide), modulusOf_n hv w hk, bd_s, nz_nI (by omega) (by omega), chk_true, hs, div_nI (by omega) (by omega) (by omega), nI_add, bnd_x, bnd_x, nI_1, if_pos hb]
        · rw [if_neg hb, if_pos (by decide), bnd_x, bnd_x, add0, nI_1, if_neg hb]
          rfl
      · show Mo_weight_L18 υ (nI (fb_sm (wgt on md S) c)) (nI c) = _
        unfold Mo_weight_L18
        rw [ix00, chk_true, tn00, hv.c0, if_pos (by rw [le_nI (by omega) (by omega)]; omega), hN]
    rw [← hS] at hsp p1 p2
    refine call_x I (Fp.rf (σ := σ)) (r := 1) (x := lN (N / Nat.gcd N S)) (y := lN (S / Nat.gcd N S)) ?_ (fun σ1 F => ?_)
    · unfold RC_weight
      rw [hc.2.1, hsp, bd_s, if_neg (by rw [show (0 : Int32) = nI 0 from rfl, eq_nI (by omega) (by omega)]; omega), kc, bd_s, nI_l (by omega), nI_l (by omega), tell_c _ (by omega) p1 (by omega), bd2_s, ckl1, chk_true]
    · obtain ⟨υ, b1, b2, b3, b4, b5⟩ := laysNow_n (hm.w2 F) w h0
      rw [← hS] at b4
      refine ⟨υ, b2.mono (fun a i q => Am0.q a i (Aly.q a i q)), ?_⟩
      unfold Mo_weight
      rw [b1, bd2_s, if_neg (by decide), km b3 b4, bd_s, b4, nI_l (by omega), nI_l (by omega), tell_m _ (by omega) p1 (by omega), bd2_s, ckl1, chk_true]
