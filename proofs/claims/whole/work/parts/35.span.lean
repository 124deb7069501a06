/-! the reference's span -/
def spr (md : Nat → Nat) (s : Nat) : Nat → Nat
  | 0 => 1
  | k + 1 => if 5040 < spr md s k then spr md s k else if s.testBit k then Nat.lcm (spr md s k) (md k) else spr md s k
theorem spr_s (md : Nat → Nat) (s k : Nat) : spr md s (k + 1) = if 5040 < spr md s k then spr md s k else if s.testBit k then Nat.lcm (spr md s k) (md k) else spr md s k := rfl
theorem spr_spn {md : Nat → Nat} {s : Nat} : ∀ {k : Nat}, (∀ j, j < k → 1 ≤ md j ∧ md j ≤ 60) → spn md s k = (if spr md s k ≤ 5040 then spr md s k else 0) ∧ 1 ≤ spr md s k ∧ spr md s k ≤ 302400
  | 0, _ => by
    refine ⟨rfl, ?_, ?_⟩
    · show 1 ≤ 1; omega
    · show 1 ≤ 302400; omega
  | k + 1, h => by
    obtain ⟨i1, i2, i3⟩ := spr_spn (md := md) (s := s) (k := k) (fun j hj => h j (by omega))
    obtain ⟨m1, m2⟩ := h k (by omega)
    rw [spn_succ, spr_s, i1]
    by_cases q : spr md s k ≤ 5040
    · rw [if_pos q, if_neg (show ¬ spr md s k = 0 by omega), if_neg (show ¬ 5040 < spr md s k by omega)]
      by_cases hb : s.testBit k = true
      · rw [if_pos hb, if_pos hb]
        have := lcm_big q m2
        have := Nat.lcm_pos (m := spr md s k) (n := md k) (by omega) (by omega)
        exact ⟨rfl, by omega, by omega⟩
      · rw [if_neg hb, if_neg hb]
        exact ⟨(if_pos q).symm, i2, i3⟩
    · rw [if_neg q, if_pos rfl, if_pos (show 5040 < spr md s k by omega)]
      exact ⟨(if_neg q).symm, i2, i3⟩
theorem spr_stop {md : Nat → Nat} {s t : Nat} (h : 5040 < spr md s t) : ∀ i, spr md s (t + i) = spr md s t
  | 0 => rfl
  | i + 1 => by
    have ih := spr_stop h i
    rw [← Nat.add_assoc, spr_s, ih, if_pos h]
theorem spanM_n {σ : St} {c od on : Nat} {rs md nm : Nat → Nat} (h : MV σ 0 0 c od on rs md nm) (w : WF c od on rs md nm) {s : Nat} (hs : s < 2147483648) : Mo_spanOf σ (nI s) = some (if spn md s c = 0 then -1 else nI (spn md s c)) := by
  have hc := w.1
  have hm : ∀ k, k ≤ c → ∀ j, j < k → 1 ≤ md j ∧ md j ≤ 60 := fun k hk j hj => ⟨(w.2.2.2.1 j (by omega)).1, (w.2.2.2.1 j (by omega)).2.1⟩
  obtain ⟨p, hp⟩ : ∃ p : Nat → Bool, p = fun k => decide (5040 < spr md s k) := ⟨_, rfl⟩
  have hle := fa_first_le p c
  have hno := fa_first_no p c
  have hyes := fa_first_yes p c
  generalize fa_first p c = t at hle hno hyes
  have hsm : ∀ k, k < t → ¬ 5040 < spr md s k := fun k hk => by have := hno k hk; rw [hp] at this; exact of_decide_eq_false this
  have hbig : t < c → 5040 < spr md s t := fun q => by have := hyes q; rw [hp] at this; exact of_decide_eq_true this
  have hfin : spr md s t = spr md s c := by
    rcases Nat.lt_or_ge t c with q | q
    · have := spr_stop (hbig q) (c - t)
      rw [show t + (c - t) = c by omega] at this
      exact this.symm
    · rw [show t = c by omega]
  have key : iter (fun u : (Int32 × Int32) => Mo_spanOf_L4 (nI s) σ u.1 u.2) FUEL (1, 0) = some (nI (spr md s c)) := by
    refine iter_for (body := fun u : (Int32 × Int32) => Mo_spanOf_L4 (nI s) σ u.1 u.2) (fun k => (nI (spr md s k), nI k)) (lo := 0) (hi := t) (n := FUEL) (e := nI (spr md s c)) (Nat.zero_le _) (fuel (by omega)) ?_ ?_
    · intro k _ hk
      show Mo_spanOf_L4 (nI s) σ (nI (spr md s k)) (nI k) = some (.inl (nI (spr md s (k + 1)), nI (k + 1)))
      obtain ⟨i1, i2, i3⟩ := spr_spn (md := md) (s := s) (k := k) (hm k (by omega))
      have hkc : k < c := by omega
      obtain ⟨m1, m2, m3⟩ := w.2.2.2.1 k hkc
      have h5 := hsm k hk
      unfold Mo_spanOf_L4
      rw [ix00, chk_true, tn00, h.c0, if_neg (by rw [le_nI (by omega) (by omega)]; omega), show (5040 : Int32) = nI 5040 from rfl, if_neg (by rw [lt_nI (by omega) (by omega)]; exact h5), isInM_b hs (by omega), bd_s, spr_s, if_neg h5]
      by_cases hb : s.testBit k = true
      · have hg0 : 0 < Nat.gcd (spr md s k) (md k) := Nat.gcd_pos_of_pos_right _ (by omega)
        have hg1 : Nat.gcd (spr md s k) (md k) ≤ md k := Nat.gcd_le_right _ (by omega)
        rw [if_pos hb, if_neg (by decide), modulusOf_n h w hkc, bd_s, common_n (by omega) (by omega), bd_s, nz_nI (by omega) (by omega), chk_true, bd_s, div_nI (by omega) (by omega) (by omega), pk_mul, lcm_div', bnd_x, bnd_x, nI_1, if_pos hb]
      · rw [if_neg hb, if_pos rfl, bnd_x, nI_1, if_neg hb]
    · show Mo_spanOf_L4 (nI s) σ (nI (spr md s t)) (nI t) = _
      obtain ⟨i1, i2, i3⟩ := spr_spn (md := md) (s := s) (k := t) (hm t hle)
      unfold Mo_spanOf_L4
      rw [ix00, chk_true, tn00, h.c0]
      rcases Nat.lt_or_ge t c with q | q
      · have := hbig q
        rw [if_neg (by rw [le_nI (by omega) (by omega)]; omega), show (5040 : Int32) = nI 5040 from rfl, if_pos (by rw [lt_nI (by omega) (by omega)]; exact this), hfin]
      · rw [if_pos (by rw [le_nI (by omega) (by omega)]; omega), hfin]
  obtain ⟨i1, i2, i3⟩ := spr_spn (md := md) (s := s) (k := c) (hm c (Nat.le_refl _))
  unfold Mo_spanOf
  rw [key, bd_s, i1, show (5040 : Int32) = nI 5040 from rfl]
  by_cases q : spr md s c ≤ 5040
  · rw [if_pos (by rw [le_nI (by omega) (by omega)]; exact q), if_pos q, if_neg (by omega)]
  · rw [if_neg (by rw [le_nI (by omega) (by omega)]; exact q), if_neg q, if_pos rfl]
