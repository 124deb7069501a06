/-! tightest -/
def tgt (md : Nat → Nat) (s : Nat) : Nat → Int32
  | 0 => -1
  | k + 1 => if s.testBit k then (if tgt md s k = -1 then nI k else if md (tn (tgt md s k)) ≤ md k then tgt md s k else nI k) else tgt md s k
theorem tgt_ex (md : Nat → Nat) (s : Nat) : ∀ k, tgt md s k = -1 ∨ ∃ j, j < k ∧ tgt md s k = nI j
  | 0 => Or.inl rfl
  | k + 1 => by
    have ih := tgt_ex md s k
    unfold tgt
    by_cases h : s.testBit k = true
    · rw [if_pos h]
      by_cases h1 : tgt md s k = -1
      · rw [if_pos h1]; exact Or.inr ⟨k, by omega, rfl⟩
      · rw [if_neg h1]
        by_cases h2 : md (tn (tgt md s k)) ≤ md k
        · rw [if_pos h2]
          rcases ih with ih | ⟨j, hj, e⟩
          · exact absurd ih h1
          · exact Or.inr ⟨j, by omega, e⟩
        · rw [if_neg h2]; exact Or.inr ⟨k, by omega, rfl⟩
    · rw [if_neg h]
      rcases ih with ih | ⟨j, hj, e⟩
      · exact Or.inl ih
      · exact Or.inr ⟨j, by omega, e⟩
theorem nI_m1 {k : Nat} (h : k < 2147483648) : ¬ nI k = (-1 : Int32) := fun q => by
  have := congrArg Int32.toInt q
  rw [nI_toInt h, show (-1 : Int32).toInt = -1 from rfl] at this
  omega
section TGT
variable {σ : St} {a q c od on : Nat} {rs md nm : Nat → Nat}
theorem least_n (h : CV σ a c od on rs md nm) (w : WF c od on rs md nm) {s : Nat} (hs : s < 2147483648) : Cl_leastModulusOf σ a (nI s) = some (tgt md s c) := by
  unfold Cl_leastModulusOf
  have hc := w.1
  have key := iter_for (body := fun u : (Int32 × Int32) => Cl_leastModulusOf_L4 a (nI s) σ u.1 u.2) (fun k => (tgt md s k, nI k)) (lo := 0) (hi := c) (n := FUEL) (e := tgt md s c) (Nat.zero_le _) (fuel (by omega)) ?_ ?_
  · exact congrArg (fun o => bd o (fun v => some v)) key
  · intro k _ hk
    show Cl_leastModulusOf_L4 a (nI s) σ (tgt md s k) (nI k) = some (.inl (tgt md s (k + 1), nI (k + 1)))
    obtain ⟨b1, b2, b3⟩ := w.2.2.2.1 k hk
    have ex := tgt_ex md s k
    unfold Cl_leastModulusOf_L4
    rw [h.1, if_neg (by rw [le_nI (by omega) (by omega)]; omega), isIn_b hs (by omega), bd_s, show tgt md s (k + 1) = if s.testBit k then (if tgt md s k = -1 then nI k else if md (tn (tgt md s k)) ≤ md k then tgt md s k else nI k) else tgt md s k from rfl]
    by_cases hb : s.testBit k = true
    · rw [if_pos hb, if_neg (by decide), if_pos hb]
      rcases ex with ex | ⟨j, hj, ex⟩
      · rw [if_pos ex, bnd_x, nI_1, if_pos ex]
      · obtain ⟨d1, d2, d3⟩ := w.2.2.2.1 j (by omega)
        rw [ex, if_neg (nI_m1 (by omega)), ix_nI (by omega) (by omega), chk_true, ix_nI (by omega) (by omega), chk_true, tn_nI (by omega), tn_nI (by omega), h.2.2.2.2.1 k hk, h.2.2.2.2.1 j (by omega), if_neg (nI_m1 (by omega)), bnd_x, bnd_x, nI_1]
        by_cases hl : md j ≤ md k
        · rw [if_pos (by rw [le_nI (by omega) (by omega)]; exact hl), if_pos hl]
        · rw [if_neg (by rw [le_nI (by omega) (by omega)]; exact hl), if_neg hl]
    · rw [if_neg hb, if_pos rfl, bnd_x, nI_1, if_neg hb]
  · show Cl_leastModulusOf_L4 a (nI s) σ (tgt md s c) (nI c) = _
    unfold Cl_leastModulusOf_L4
    rw [h.1, if_pos (by rw [le_nI (by omega) (by omega)]; omega)]
theorem tightM_n (h : MV σ 0 q c od on rs md nm) (w : WF c od on rs md nm) {s : Nat} (hs : s < 2147483648) : iter (fun u : (Int32 × Int32) => Mo_tightest_L29 (nI s) σ u.1 u.2) FUEL ((-1), 0) = some (tgt md s c) := by
  have hc := w.1
  refine iter_for (body := fun u : (Int32 × Int32) => Mo_tightest_L29 (nI s) σ u.1 u.2) (fun k => (tgt md s k, nI k)) (lo := 0) (hi := c) (n := FUEL) (e := tgt md s c) (Nat.zero_le _) (fuel (by omega)) ?_ ?_
  · intro k _ hk
    show Mo_tightest_L29 (nI s) σ (tgt md s k) (nI k) = some (.inl (tgt md s (k + 1), nI (k + 1)))
    obtain ⟨b1, b2, b3⟩ := w.2.2.2.1 k hk
    have ex := tgt_ex md s k
    unfold Mo_tightest_L29
    rw [ix00, chk_true, tn00, h.c0, if_neg (by rw [le_nI (by omega) (by omega)]; omega), isInM_b hs (by omega), bd_s, show tgt md s (k + 1) = if s.testBit k then (if tgt md s k = -1 then nI k else if md (tn (tgt md s k)) ≤ md k then tgt md s k else nI k) else tgt md s k from rfl]
    by_cases hb : s.testBit k = true
    · rw [if_pos hb, if_neg (by decide), if_pos hb]
      rcases ex with ex | ⟨j, hj, ex⟩
      · rw [if_pos ex, bnd_x, nI_1, if_pos ex]
      · obtain ⟨d1, d2, d3⟩ := w.2.2.2.1 j (by omega)
        rw [ex, if_neg (nI_m1 (by omega)), modulusOf_n h w hk, bd_s, modulusOf_n h w (by omega), bd_s, tn_nI (by omega), if_neg (nI_m1 (by omega)), bnd_x, bnd_x, nI_1]
        by_cases hl : md j ≤ md k
        · rw [if_pos (by rw [le_nI (by omega) (by omega)]; exact hl), if_pos hl]
        · rw [if_neg (by rw [le_nI (by omega) (by omega)]; exact hl), if_neg hl]
    · rw [if_neg hb, if_pos rfl, bnd_x, nI_1, if_neg hb]
  · show Mo_tightest_L29 (nI s) σ (tgt md s c) (nI c) = _
    unfold Mo_tightest_L29
    rw [ix00, chk_true, tn00, h.c0, if_pos (by rw [le_nI (by omega) (by omega)]; omega)]
end TGT
theorem cset_4 {c on : Nat} {rs md : Nat → Nat} {n : Nat} (h : c ≤ 12) : cset c on rs md n < 4096 := bset_4 _ h
theorem orNone_c (σ : St) (x : Int32) : RC_answerOrNone σ x = if x = -1 then some (-1, wI σ 0 0 6) else some (x, wI σ 0 0 0) := by
  unfold RC_answerOrNone
  rw [RC_refuse_n, RC_answer_n, bd2_s, bd2_s]
theorem orNone_m (σ : St) (x : Int32) : Mo_orNone σ x = if x = -1 then some (-1, wI σ 92 2 6) else some (x, wI σ 92 2 0) := by
  unfold Mo_orNone
  rw [Mo_refuse_n, Mo_gives_n, bd2_s, bd2_s]
theorem call_tightest {σ : St} (I : Inv σ) (p : Int32) : Call (fun σ => RC_tightest σ p) (fun σ => Mo_tightest σ p) σ := by
  obtain ⟨c, od, on, rs, md, nm, hc, hm, w⟩ := I.2.2.2.2.1
  have h4 : ∀ n, cset c on rs md n < 4096 := fun n => cset_4 w.1
  rcases within_ex p (lo := 0) (hi := 9999) 0 9999 rfl rfl (by omega) with h | ⟨n, _, hn, rfl, h⟩
  · refine call_s (r := -1) (v := 1) I ?_ (fun σ1 F => ?_)
    · show RC_tightest σ p = _
      unfold RC_tightest
      rw [h, bd_s, if_pos rfl, RC_refuse_n, bd2_s]
    · show Mo_tightest σ1 p = _
      unfold Mo_tightest
      rw [isFrom_w, h, bd_s, if_pos rfl, Mo_refuse_n, bd2_s]
  · have h5 := h4 n
    by_cases e : tgt md (cset c on rs md n) c = -1
    · refine call_s (r := -1) (v := 6) I ?_ (fun σ1 F => ?_)
      · show RC_tightest σ (nI n) = _
        unfold RC_tightest
        rw [h, bd_s, if_neg (by decide), catchers_n hc w (by omega), bd_s, least_n hc w (by omega), bd_s, orNone_c, if_pos e, bd2_s]
      · show Mo_tightest σ1 (nI n) = _
        unfold Mo_tightest
        rw [isFrom_w, h, bd_s, if_neg (by decide), catchersM_n (hm.w F) w (by omega), bd_s, tightM_n (hm.w F) w (by omega), bd_s, orNone_m, if_pos e, bd2_s]
    · refine call_s (r := tgt md (cset c on rs md n) c) (v := 0) I ?_ (fun σ1 F => ?_)
      · show RC_tightest σ (nI n) = _
        unfold RC_tightest
        rw [h, bd_s, if_neg (by decide), catchers_n hc w (by omega), bd_s, least_n hc w (by omega), bd_s, orNone_c, if_neg e, bd2_s]
      · show Mo_tightest σ1 (nI n) = _
        unfold Mo_tightest
        rw [isFrom_w, h, bd_s, if_neg (by decide), catchersM_n (hm.w F) w (by omega), bd_s, tightM_n (hm.w F) w (by omega), bd_s, orNone_m, if_neg e, bd2_s]
