/-! meet -/
theorem meet_no {m1 m2 r1 r2 t x : Nat} (h1 : 0 < m1) (hno : ∀ i, i < t → ¬ (r1 + i * m1) % m2 = r2) (hx : x < r1 + t * m1) (hr : r1 < m1) : ¬ (x % m1 = r1 ∧ x % m2 = r2) := by
  rintro ⟨q1, q2⟩
  have hd := Nat.div_add_mod x m1
  rw [q1] at hd
  have hc : m1 * (x / m1) = x / m1 * m1 := Nat.mul_comm _ _
  have hlt : x / m1 < t := by
    apply Nat.lt_of_not_le
    intro q
    have := Nat.mul_le_mul_right m1 q
    omega
  exact hno _ hlt (by rw [show r1 + x / m1 * m1 = x by omega]; exact q2)
section MEE
variable {σ : St} {a c od on : Nat} {rs md nm : Nat → Nat}
theorem both_n (h : CV σ a c od on rs md nm) (w : WF c od on rs md nm) {k o : Nat} (hk : k < c) (ho : o < c) {t : Nat} (ht : t ≤ md o) (hno : ∀ i, i < t → ¬ (rs k + i * md k) % md o = rs o) (hyes : t < md o → (rs k + t * md k) % md o = rs o) : Cl_leastOfBoth σ a (nI k) (nI o) = some (if t < md o then nI (rs k + t * md k) else -1) := by
  have hc := w.1
  obtain ⟨b1, b2, b3⟩ := w.2.2.2.1 k hk
  obtain ⟨d1, d2, d3⟩ := w.2.2.2.1 o ho
  have big : ∀ i, i ≤ md o → i * md k ≤ 60 * 60 := fun i hi => Nat.mul_le_mul (by omega) b2
  unfold Cl_leastOfBoth
  refine iter_for (body := fun s : Int32 => Cl_leastOfBoth_L2 a (nI k) (nI o) σ s) (fun i => nI i) (lo := 0) (hi := t) (n := FUEL) (Nat.zero_le _) (fuel (by omega)) ?_ ?_
  · intro i _ hi
    have hb := big i (by omega)
    show Cl_leastOfBoth_L2 a (nI k) (nI o) σ (nI i) = some (.inl (nI (i + 1)))
    unfold Cl_leastOfBoth_L2
    rw [ix_nI (by omega) (by omega), chk_true, tn_nI (by omega), h.2.2.2.2.1 o ho, if_neg (by rw [le_nI (by omega) (by omega)]; omega), ix_nI (by omega) (by omega), chk_true, chk_true, tn_nI (by omega), h.2.2.2.1 k hk, h.2.2.2.2.1 k hk, pk_mul, nI_add, bnd_x, takes_n h w ho (by omega), bd_s, if_neg (hno i hi), if_pos rfl, bnd_x, nI_1]
  · show Cl_leastOfBoth_L2 a (nI k) (nI o) σ (nI t) = _
    unfold Cl_leastOfBoth_L2
    have hb := big t ht
    rw [ix_nI (by omega) (by omega), chk_true, tn_nI (by omega), h.2.2.2.2.1 o ho]
    by_cases q : t < md o
    · rw [if_neg (by rw [le_nI (by omega) (by omega)]; omega), ix_nI (by omega) (by omega), chk_true, chk_true, tn_nI (by omega), h.2.2.2.1 k hk, h.2.2.2.2.1 k hk, pk_mul, nI_add, bnd_x, takes_n h w ho (by omega), bd_s, if_pos (hyes q), if_neg (by decide), if_pos q]
    · rw [if_pos (by rw [le_nI (by omega) (by omega)]; omega), if_neg q]
theorem bothM_n (h : MV σ 0 0 c od on rs md nm) (w : WF c od on rs md nm) {k o : Nat} (hk : k < c) (ho : o < c) {t : Nat} (ht : t ≤ md o) (hno : ∀ i, i < t → ¬ (rs k + i * md k) % md o = rs o) (hyes : t < md o → (rs k + t * md k) % md o = rs o) : iter (fun s : Int32 => Mo_meet_L29 (nI k) (nI o) σ s) FUEL 0 = some (if t < md o then (nI (rs k + t * md k), wI σ 92 2 0) else (-1, wI σ 92 2 6)) := by
  have hc := w.1
  obtain ⟨b1, b2, b3⟩ := w.2.2.2.1 k hk
  obtain ⟨d1, d2, d3⟩ := w.2.2.2.1 o ho
  have hp : md k * md o ≤ 60 * 60 := Nat.mul_le_mul b2 d2
  have hcm : md k * md o = md o * md k := Nat.mul_comm _ _
  obtain ⟨T, hT⟩ : ∃ T, T = if t < md o then rs k + t * md k else md k * md o := ⟨_, rfl⟩
  have hTle : T ≤ md k * md o := by
    rw [hT]
    by_cases q : t < md o
    · rw [if_pos q]
      have := Nat.mul_le_mul_right (md k) (show t + 1 ≤ md o from q)
      rw [Nat.add_mul] at this
      omega
    · rw [if_neg q]; omega
  have hTn : ∀ x, x < T → x < rs k + t * md k := by
    intro x hx
    rw [hT] at hx
    by_cases q : t < md o
    · rw [if_pos q] at hx; exact hx
    · rw [if_neg q] at hx
      have : t = md o := by omega
      rw [this]; omega
  have hTs : t < md o → T < md k * md o := by
    intro q
    rw [hT, if_pos q]
    have := Nat.mul_le_mul_right (md k) (show t + 1 ≤ md o from q)
    rw [Nat.add_mul] at this
    omega
  refine iter_for (body := fun s : Int32 => Mo_meet_L29 (nI k) (nI o) σ s) (fun i => nI i) (lo := 0) (hi := T) (n := FUEL) (Nat.zero_le _) (fuel (by omega)) ?_ ?_
  · intro x _ hx
    have hn := meet_no (m1 := md k) (m2 := md o) (r2 := rs o) (by omega) hno (hTn x hx) b3
    have e1 : x % md k < md k := Nat.mod_lt _ (by omega)
    have e2 : x % md o < md o := Nat.mod_lt _ (by omega)
    show Mo_meet_L29 (nI k) (nI o) σ (nI x) = some (.inl (nI (x + 1)))
    unfold Mo_meet_L29
    rw [modulusOf_n h w hk, bd_s, modulusOf_n h w ho, bd_s, pk_mul, if_neg (by rw [le_nI (by omega) (by omega)]; omega), bd_s, nz_nI (by omega) (by omega), chk_true, restOf_n h w hk, bd_s, rem_nI (by omega) (by omega) (by omega)]
    by_cases q1 : x % md k = rs k
    · rw [if_pos (by rw [q1]), bd_s, nz_nI (by omega) (by omega), chk_true, restOf_n h w ho, bd_s, rem_nI (by omega) (by omega) (by omega), if_neg (by rw [eq_nI (by omega) (by omega)]; exact fun q2 => hn ⟨q1, q2⟩), bnd_x, nI_1]
    · rw [if_neg (by rw [eq_nI (by omega) (by omega)]; exact q1), bnd_x, nI_1]
  · show Mo_meet_L29 (nI k) (nI o) σ (nI T) = _
    unfold Mo_meet_L29
    rw [modulusOf_n h w hk, bd_s, modulusOf_n h w ho, bd_s, pk_mul]
    by_cases q : t < md o
    · have hs := hTs q
      have hTe : T = rs k + t * md k := by rw [hT, if_pos q]
      have y1 : T % md k = rs k := by rw [hTe, Nat.add_mul_mod_self_right, Nat.mod_eq_of_lt b3]
      have y2 : T % md o = rs o := by rw [hTe]; exact hyes q
      rw [if_neg (by rw [le_nI (by omega) (by omega)]; omega), bd_s, nz_nI (by omega) (by omega), chk_true, restOf_n h w hk, bd_s, rem_nI (by omega) (by omega) (by omega), y1, if_pos rfl, bd_s, nz_nI (by omega) (by omega), chk_true, restOf_n h w ho, bd_s, rem_nI (by omega) (by omega) (by omega), y2, if_pos rfl, Mo_gives_n, bd2_s, if_pos q, hTe]
    · have hTe : T = md k * md o := by rw [hT, if_neg q]
      rw [if_pos (by rw [le_nI (by omega) (by omega)]; omega), Mo_refuse_n, bd2_s, if_neg q]
end MEE
theorem call_meet {σ : St} (I : Inv σ) (p p2 : Int32) : Call (fun σ => RC_meet σ p p2) (fun σ => Mo_meet σ p p2) σ := by
  obtain ⟨c, od, on, rs, md, nm, hc, hm, w⟩ := I.2.2.2.2.1
  have hc12 := w.1
  by_cases hx : ix p c = true
  · obtain ⟨k, hk, rfl, hk2⟩ := ix_ex hx
    by_cases hy : ix p2 c = true
    · obtain ⟨o, ho, rfl, ho2⟩ := ix_ex hy
      by_cases he : nI k = nI o
      · refine call_s (r := -1) (v := 1) I ?_ (fun σ1 F => ?_)
        · show RC_meet σ (nI k) (nI o) = _
          unfold RC_meet
          rw [isThere_g hc.1 (by omega), if_pos hx, bd_s, if_neg (by decide), isThere_g hc.1 (by omega), if_pos hy, bd_s, if_neg (by decide), if_pos he, RC_refuse_n, bd2_s]
        · show Mo_meet σ1 (nI k) (nI o) = _
          unfold Mo_meet
          rw [isClass_g (hm.w F) (by omega), if_pos hx, bd_s, if_neg (by decide), isClass_g (hm.w F) (by omega), if_pos hy, bd_s, if_neg (by decide), if_pos he, Mo_refuse_n, bd2_s]
      · obtain ⟨pr, hpr⟩ : ∃ pr : Nat → Bool, pr = fun i => decide ((rs k + i * md k) % md o = rs o) := ⟨_, rfl⟩
        have hle := fa_first_le pr (md o)
        have hno' := fa_first_no pr (md o)
        have hyes' := fa_first_yes pr (md o)
        generalize fa_first pr (md o) = t at hle hno' hyes'
        have hno : ∀ i, i < t → ¬ (rs k + i * md k) % md o = rs o := fun i hi => by have := hno' i hi; rw [hpr] at this; exact of_decide_eq_false this
        have hyes : t < md o → (rs k + t * md k) % md o = rs o := fun q => by have := hyes' q; rw [hpr] at this; exact of_decide_eq_true this
        obtain ⟨b1, b2, b3⟩ := w.2.2.2.1 k hk
        obtain ⟨d1, d2, d3⟩ := w.2.2.2.1 o ho
        have hb : t * md k ≤ 60 * 60 := Nat.mul_le_mul (by omega) b2
        by_cases q : t < md o
        · refine call_s (r := nI (rs k + t * md k)) (v := 0) I ?_ (fun σ1 F => ?_)
          · show RC_meet σ (nI k) (nI o) = _
            unfold RC_meet
            rw [isThere_g hc.1 (by omega), if_pos hx, bd_s, if_neg (by decide), isThere_g hc.1 (by omega), if_pos hy, bd_s, if_neg (by decide), if_neg he, both_n hc w hk ho hle hno hyes, if_pos q, bd_s, orNone_c, if_neg (nI_m1 (by omega)), bd2_s]
          · show Mo_meet σ1 (nI k) (nI o) = _
            unfold Mo_meet
            rw [isClass_g (hm.w F) (by omega), if_pos hx, bd_s, if_neg (by decide), isClass_g (hm.w F) (by omega), if_pos hy, bd_s, if_neg (by decide), if_neg he, bothM_n (hm.w F) w hk ho hle hno hyes, if_pos q]
        · refine call_s (r := -1) (v := 6) I ?_ (fun σ1 F => ?_)
          · show RC_meet σ (nI k) (nI o) = _
            unfold RC_meet
            rw [isThere_g hc.1 (by omega), if_pos hx, bd_s, if_neg (by decide), isThere_g hc.1 (by omega), if_pos hy, bd_s, if_neg (by decide), if_neg he, both_n hc w hk ho hle hno hyes, if_neg q, bd_s, orNone_c, if_pos rfl, bd2_s]
          · show Mo_meet σ1 (nI k) (nI o) = _
            unfold Mo_meet
            rw [isClass_g (hm.w F) (by omega), if_pos hx, bd_s, if_neg (by decide), isClass_g (hm.w F) (by omega), if_pos hy, bd_s, if_neg (by decide), if_neg he, bothM_n (hm.w F) w hk ho hle hno hyes, if_neg q]
    · refine call_s (r := -1) (v := 1) I ?_ (fun σ1 F => ?_)
      · show RC_meet σ (nI k) p2 = _
        unfold RC_meet
        rw [isThere_g hc.1 (by omega), if_pos hx, bd_s, if_neg (by decide), isThere_g hc.1 (by omega), if_neg hy, bd_s, if_pos rfl, RC_refuse_n, bd2_s]
      · show Mo_meet σ1 (nI k) p2 = _
        unfold Mo_meet
        rw [isClass_g (hm.w F) (by omega), if_pos hx, bd_s, if_neg (by decide), isClass_g (hm.w F) (by omega), if_neg hy, bd_s, if_pos rfl, Mo_refuse_n, bd2_s]
  · refine call_s (r := -1) (v := 1) I ?_ (fun σ1 F => ?_)
    · show RC_meet σ p p2 = _
      unfold RC_meet
      rw [isThere_g hc.1 (by omega), if_neg hx, bd_s, if_pos rfl, RC_refuse_n, bd2_s]
    · show Mo_meet σ1 p p2 = _
      unfold Mo_meet
      rw [isClass_g (hm.w F) (by omega), if_neg hx, bd_s, if_pos rfl, Mo_refuse_n, bd2_s]
