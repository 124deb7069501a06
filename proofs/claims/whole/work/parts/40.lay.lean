/-! a class laid into the sieve -/
theorem off_bit {m r o w j : Nat} (h1 : 1 ≤ m) (ho : o < m) (hm : (o + 64 * w) % m = r) : (decide (o ≤ j) && decide ((j - o) % m = 0)) = decide ((64 * w + j) % m = r) := by
  by_cases q : o ≤ j
  · rw [decide_eq_true q, Bool.true_and]
    have e : 64 * w + j = (o + 64 * w) + (j - o) := by omega
    by_cases z : (j - o) % m = 0
    · rw [decide_eq_true z, decide_eq_true]
      rw [e, Nat.add_mod, z, Nat.add_zero, Nat.mod_mod]
      exact hm
    · rw [decide_eq_false z, decide_eq_false]
      intro z2
      have : (64 * w + j) % m = (o + 64 * w) % m := by rw [z2, hm]
      have := Nat.sub_mod_eq_zero_of_mod_eq this
      rw [show 64 * w + j - (o + 64 * w) = j - o by omega] at this
      exact z this
  · rw [decide_eq_false q, Bool.false_and, decide_eq_false]
    intro z
    exact mod_gap (m := m) (x := 64 * w + j) (y := o + 64 * w) (by rw [z, hm]) (by omega) (by omega)
theorem off_next {m r o w : Nat} (h1 : 1 ≤ m) (ho : o < m) (hm : (o + 64 * w) % m = r) : (if 64 % m ≤ o then o - 64 % m else o + m - 64 % m) < m ∧ ((if 64 % m ≤ o then o - 64 % m else o + m - 64 % m) + 64 * (w + 1)) % m = r := by
  have hl : 64 % m < m := Nat.mod_lt _ (by omega)
  have hd := Nat.div_add_mod 64 m
  by_cases q : 64 % m ≤ o
  · rw [if_pos q]
    refine ⟨by omega, ?_⟩
    rw [show o - 64 % m + 64 * (w + 1) = o + 64 * w + m * (64 / m) by omega, Nat.add_mul_mod_self_left]
    exact hm
  · rw [if_neg q]
    refine ⟨by omega, ?_⟩
    rw [show o + m - 64 % m + 64 * (w + 1) = o + 64 * w + m + m * (64 / m) by omega, Nat.add_mul_mod_self_left, Nat.add_mod_right]
    exact hm
theorem lay_n {σ : St} {m r W : Nat} (h1 : 1 ≤ m) (h2 : m ≤ 60) (hr : r < m) (hW : W ≤ 79) (hw : σ.1 31 4 = nI W) : ∃ σ', Si_lay σ (nI m) (nI r) = some σ' ∧ ∀ w, w < W → ∀ j, j < 64 → lb (σ'.2 32 w) j = (lb (σ.2 32 w) j || decide ((64 * w + j) % m = r)) ∧ lb (σ'.2 33 w) j = (lb (σ.2 33 w) j || (lb (σ.2 32 w) j && decide ((64 * w + j) % m = r))) := by
  obtain ⟨x, c1, c2⟩ := comb_n h1 h2
  have hl : 64 % m < m := Nat.mod_lt _ (by omega)
  have key := iter_cnt (body := fun s : (Int32 × Int32 × St) => Si_lay_L19 (nI m) x (nI (64 % m)) s.2.2 s.1 s.2.1) (fun k s => ∃ o, s.1 = nI o ∧ s.2.1 = nI k ∧ o < m ∧ (o + 64 * k) % m = r ∧ s.2.2.1 31 4 = nI W ∧ (∀ w, k ≤ w → s.2.2.2 32 w = σ.2 32 w ∧ s.2.2.2 33 w = σ.2 33 w) ∧ ∀ w, w < k → ∀ j, j < 64 → lb (s.2.2.2 32 w) j = (lb (σ.2 32 w) j || decide ((64 * w + j) % m = r)) ∧ lb (s.2.2.2 33 w) j = (lb (σ.2 33 w) j || (lb (σ.2 32 w) j && decide ((64 * w + j) % m = r)))) (fun e => ∀ w, w < W → ∀ j, j < 64 → lb (e.2 32 w) j = (lb (σ.2 32 w) j || decide ((64 * w + j) % m = r)) ∧ lb (e.2 33 w) j = (lb (σ.2 33 w) j || (lb (σ.2 32 w) j && decide ((64 * w + j) % m = r)))) (lo := 0) (hi := W) (n := FUEL) (Nat.zero_le _) (fuel (by omega)) ?_ ?_ (s := (nI r, 0, σ)) ⟨r, rfl, rfl, hr, by rw [Nat.mul_zero, Nat.add_zero]; exact Nat.mod_eq_of_lt hr, hw, fun w _ => ⟨rfl, rfl⟩, fun w hw => by omega⟩
  · obtain ⟨e, a1, a2⟩ := key
    refine ⟨e, ?_, a2⟩
    unfold Si_lay
    rw [c1, bd_s, show (64 : Int32) = nI 64 from rfl, leftBy_n (by omega) (by omega) (by omega), bd_s, a1, bd_s]
  · rintro k ⟨o', k', τ⟩ _ hk ⟨o, rfl, rfl, ho, hom, g1, g2, g3⟩
    obtain ⟨n1, n2⟩ := off_next h1 ho hom
    obtain ⟨e1, e2⟩ := g2 k (Nat.le_refl _)
    have g1' : τ.1 31 4 = nI W := g1
    have e1' : τ.2 32 k = σ.2 32 k := e1
    have e2' : τ.2 33 k = σ.2 33 k := e2
    obtain ⟨v, hv⟩ : ∃ v, v = x <<< ((nI o).toInt64 &&& 63) := ⟨_, rfl⟩
    have hvb : ∀ j, j < 64 → lb v j = decide ((64 * k + j) % m = r) := fun j hj => by
      rw [hv, lb_shl x (by omega) hj, ← off_bit h1 ho hom]
      by_cases q : o ≤ j
      · rw [c2 (j - o) (by omega)]
      · rw [decide_eq_false q, Bool.false_and, Bool.false_and]
    refine ⟨(nI (if 64 % m ≤ o then o - 64 % m else o + m - 64 % m), nI (k + 1), wL (wL τ 33 k (σ.2 33 k ||| (σ.2 32 k &&& v))) 32 k (σ.2 32 k ||| v)), ?_, ⟨_, rfl, rfl, n1, n2, g1, fun w hw => ?_, fun w hw j hj => ?_⟩⟩
    · show Si_lay_L19 (nI m) x (nI (64 % m)) τ (nI o) (nI k) = _
      unfold Si_lay_L19
      rw [g1', if_neg (by rw [le_nI (by omega) (by omega)]; omega), ← hv, bnd_x, ix_nI (by omega) (by omega), chk_true, chk_true, chk_true, tn_nI (by omega), e1', e2', bnd_x, chk_true, chk_true, wL_ne (by omega), e1', bnd_x]
      by_cases q : 64 % m ≤ o
      · rw [if_pos (by rw [le_nI (by omega) (by omega)]; exact q), sub_nI q, bnd_x, bnd_x, nI_1, if_pos q]
      · rw [if_neg (by rw [le_nI (by omega) (by omega)]; exact q), bnd_x, bnd_x, nI_1, if_neg q, show nI o - nI (64 % m) + nI m = nI (o + m - 64 % m) by
          rw [← sub_nI (by omega), ← nI_add]
          rw [Int32.sub_eq_add_neg, Int32.sub_eq_add_neg, Int32.add_assoc, Int32.add_comm (-(nI (64 % m))) (nI m), ← Int32.add_assoc]]
    · show (wL (wL τ 33 k (σ.2 33 k ||| (σ.2 32 k &&& v))) 32 k (σ.2 32 k ||| v)).2 32 w = _ ∧ (wL (wL τ 33 k (σ.2 33 k ||| (σ.2 32 k &&& v))) 32 k (σ.2 32 k ||| v)).2 33 w = _
      rw [wL_ne (by omega), wL_ne (by omega), wL_ne (by omega), wL_ne (by omega)]
      exact g2 w (by omega)
    · show lb ((wL (wL τ 33 k (σ.2 33 k ||| (σ.2 32 k &&& v))) 32 k (σ.2 32 k ||| v)).2 32 w) j = _ ∧ lb ((wL (wL τ 33 k (σ.2 33 k ||| (σ.2 32 k &&& v))) 32 k (σ.2 32 k ||| v)).2 33 w) j = _
      by_cases e : w = k
      · subst e
        rw [wL_s, wL_ne (by omega), wL_s, lb_or, lb_or, lb_and, hvb j hj]
        exact ⟨rfl, rfl⟩
      · rw [wL_ne (by omega), wL_ne (by omega), wL_ne (by omega), wL_ne (by omega)]
        exact g3 w (by omega) j hj
  · rintro ⟨o', k', τ⟩ ⟨o, rfl, rfl, ho, hom, g1, g2, g3⟩
    refine ⟨τ, ?_, g3⟩
    show Si_lay_L19 (nI m) x (nI (64 % m)) τ (nI o) (nI W) = _
    unfold Si_lay_L19
    rw [show τ.1 31 4 = nI W from g1, if_pos (by rw [le_nI (by omega) (by omega)]; omega)]
